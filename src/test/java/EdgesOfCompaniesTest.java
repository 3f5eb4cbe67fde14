import java.io.IOException;

/** The boundary cases of the terms FEES and STABLE COMPANIES, sentence by sentence. */
public final class EdgesOfCompaniesTest {
    private static final int BAD_VALUE = StableParty.BAD_VALUE;
    private static final int NONE = StableParty.NONE;
    private static final int ALL = 4095;

    private final Edges edges = new Edges("EdgesOfCompaniesTest");

    private EdgesOfCompaniesTest() throws IOException {
    }

    public static void main(String[] args) throws IOException {
        EdgesOfCompaniesTest test = new EdgesOfCompaniesTest();
        test.fees();
        test.stableCompanies();
        test.rounds();
        test.reasons();
        test.chosenCompany();
        test.edges.finish();
    }

    // ---- FEES

    private void fees() {
        hall();
        head();
        feeOfMany();
    }

    private void hall() {
        edges.sentence("FEES", "The hall costs 0 to 99999 cents (at first 10000)");
        StableParty x = new StableParty();
        edges.due("at first", x.count(3), 10000);
        edges.due("the greatest", x.set(0, 99999), 10000);
        edges.due("is told", x.count(3), 99999);
        edges.due("the least", x.set(0, 0), 99999);
        edges.due("is told", x.count(3), 0);
        edges.due("costs nothing", x.fee(1), 500);
        edges.leavesAll("beyond the least", Edges::openWithRoom, y -> y.set(0, -1), BAD_VALUE);
        edges.leavesAll("beyond the greatest", Edges::openWithRoom, y -> y.set(0, 100000), BAD_VALUE);
    }

    private void head() {
        edges.sentence("FEES", "and each head 0 to 9999 (at first 500)");
        StableParty x = new StableParty();
        edges.due("at first", x.count(4), 500);
        edges.due("the greatest", x.set(1, 9999), 500);
        edges.due("is told", x.count(4), 9999);
        edges.due("the least", x.set(1, 0), 9999);
        edges.due("is told", x.count(4), 0);
        edges.due("costs nothing", x.fee(1), 10000);
        edges.leavesAll("beyond the least", Edges::openWithRoom, y -> y.set(1, -1), BAD_VALUE);
        edges.leavesAll("beyond the greatest", Edges::openWithRoom, y -> y.set(1, 10000), BAD_VALUE);
    }

    private void feeOfMany() {
        edges.sentence("FEES", "If n guests come, each of them pays the fee of n: hall / n, rounded up, "
                + "and the head.");
        int[][] halls = {
            // the hall, and the fees of 1 to 12 without the head
            {0, 0, 0, 0, 0, 0, 0, 0, 0, 0, 0, 0, 0},
            {1, 1, 1, 1, 1, 1, 1, 1, 1, 1, 1, 1, 1},
            {11, 11, 6, 4, 3, 3, 2, 2, 2, 2, 2, 1, 1},
            {12, 12, 6, 4, 3, 3, 2, 2, 2, 2, 2, 2, 1},
            {13, 13, 7, 5, 4, 3, 3, 2, 2, 2, 2, 2, 2},
            {24, 24, 12, 8, 6, 5, 4, 4, 3, 3, 3, 3, 2},
            {25, 25, 13, 9, 7, 5, 5, 4, 4, 3, 3, 3, 3},
            {99998, 99998, 49999, 33333, 25000, 20000, 16667, 14286, 12500, 11111, 10000, 9091, 8334},
            {99999, 99999, 50000, 33333, 25000, 20000, 16667, 14286, 12500, 11111, 10000, 9091, 8334}};
        for (int[] row : halls) {
            StableParty x = new StableParty();
            x.set(0, row[0]);
            for (int head : new int[] {9999, 1, 0}) {
                x.set(1, head);
                for (int many = 1; many <= 12; many++) {
                    edges.due("a hall of " + row[0] + ", for " + many, x.fee(many), row[many] + head);
                }
            }
        }
        for (int many = 1; many <= 12; many++) {
            StableParty y = Checks.partyOf(many);
            y.set(0, 99999);
            y.set(1, 0);
            int fee = (99999 + many - 1) / many;
            edges.due("paid by " + many, y.fix(), many * fee);
            edges.due("each of them", y.guest(many - 1, 5), fee);
        }
    }

    // ---- STABLE COMPANIES

    private void stableCompanies() {
        stableIfInvited();
        stableIfConditionsAreMet();
        stableIfLimitsAllowTheFee();
        emptySetIsStable();
        othersArePartsOfTheGreatest();
    }

    private void stableIfInvited() {
        edges.sentence("STABLE COMPANIES", "A set of invited guests is a stable company");
        for (int guest = 0; guest < 12; guest += 11) {
            StableParty x = Edges.full();
            edges.due("all", x.stable(ALL), 1);
            x.invite(guest, false);
            edges.due("one is not invited: " + guest, x.stable(ALL), 0);
            edges.due("alone", x.stable(1 << guest), 0);
            edges.due("the others", x.stable(ALL - (1 << guest)), 1);
        }
    }

    private void stableIfConditionsAreMet() {
        edges.sentence("STABLE COMPANIES", "if the condition of each of them is met by this set");
        StableParty x = Edges.party("b", "*", "a");
        edges.due("the first one's is not", x.stable(5), 0);
        edges.due("the last one's is not", x.stable(6), 0);
        edges.due("each one's is", x.stable(7), 1);
        edges.due("that of one who is not in the set does not count", x.stable(2), 1);
        StableParty y = Edges.full();
        Checks.condition(y, 11, "#12");
        edges.due("all twelve", y.stable(ALL), 1);
        edges.due("eleven of them", y.stable(ALL - 1), 0);
        edges.due("eleven others", y.stable(ALL - 2048), 1);
    }

    private void stableIfLimitsAllowTheFee() {
        edges.sentence("STABLE COMPANIES",
                "and the fee of their number is not greater than the limit of any of them");
        for (int guest = 0; guest < 3; guest++) {
            StableParty x = Checks.partyOf(3);
            x.setLimit(guest, 3834);
            edges.due("the limit is the fee", x.stable(7), 1);
            x.setLimit(guest, 3833);
            edges.due("the limit is a cent less", x.stable(7), 0);
            x.setLimit(guest, 3835);
            edges.due("the limit is a cent more", x.stable(7), 1);
            edges.due("one fewer", x.stable(7 - (guest == 0 ? 2 : 1)), 0);
            edges.due("without that one", x.stable(7 - (1 << guest)), 1);
        }
        StableParty y = Edges.full();
        y.setLimit(11, 1334);
        edges.due("the fee of twelve", y.stable(ALL), 1);
        edges.due("the fee of eleven", y.stable(ALL - 1), 0);
        y.set(0, 99999);
        y.set(1, 9999);
        edges.due("the greatest fee of one is more than any limit", y.stable(1), 0);
        edges.due("but not that of two", y.stable(3), 1);
        y.set(1, 0);
        edges.due("the greatest limit is enough for the greatest hall", y.stable(1), 1);
        y.set(1, 1);
        edges.due("but not for a cent more", y.stable(1), 0);
        y.set(0, 0);
        y.set(1, 0);
        y.setLimit(0, 0);
        edges.due("the least limit, the least fee", y.stable(1), 1);
    }

    private void emptySetIsStable() {
        edges.sentence("STABLE COMPANIES", "(The empty set is one.)");
        edges.due("without guests", new StableParty().stable(0), 1);
        edges.due("with twelve", Edges.full().stable(0), 1);
        StableParty x = Edges.party("#2", "2:a");
        edges.due("when no other is", x.stable(0), 1);
        edges.due("it is the only one", x.companies(), 1);
        edges.due("and the greatest", x.company(0), 0);
        StableParty y = new StableParty();
        y.addGuest(0, 1);
        edges.due("whatever the fee", y.stable(0), 1);
    }

    private void othersArePartsOfTheGreatest() {
        edges.sentence("STABLE COMPANIES", "The greatest stable company is that of which all others are parts");
        String[][] parties = {{"b", "a", "d", "c"}, {"*", "*", "*", "*"}, {"b", "c", "d", "e"},
            {"#2", "3:abd", "#5", "a|c"}, {"2:a", "2:b", "2:c", "2:d"}, {"*", "a", "2:ab", "#3"}};
        for (String[] conditions : parties) {
            StableParty x = Checks.partyOf(5);
            x.invite(4, false);
            for (int guest = 0; guest < 4; guest++) {
                Checks.condition(x, guest, conditions[guest]);
            }
            x.setLimit(1, 5500);
            int greatest = x.company(0);
            edges.due("it is stable", x.stable(greatest), 1);
            int stable = 0;
            for (int set = 0; set < 32; set++) {
                stable += x.stable(set);
                edges.due("a part: " + set, x.stable(set) == 1 ? set & ~greatest : 0, 0);
            }
            edges.due("all of them", x.companies(), stable);
        }
        StableParty y = Checks.partyOf(12);
        edges.due("of twelve", y.company(0), ALL);
        edges.due("of nobody", new StableParty().company(0), 0);
    }

    // ---- the rounds

    private void rounds() {
        allInvitedInTheFirstRound();
        allAtOnceByConditions();
        allAtOnceByFees();
        othersInTheNextRound();
        theFirstRoundWithoutAnyone();
    }

    private void allInvitedInTheFirstRound() {
        edges.sentence("STABLE COMPANIES", "In the round 1 all invited guests are in the set");
        StableParty x = Edges.party("#3", "#2", "*");
        edges.due("all", x.company(0), 7);
        edges.due("one round", x.rounds(), 1);
        x.invite(2, false);
        edges.due("nobody, if one fewer is invited", x.company(0), 0);
        edges.due("the first one's reason", x.why(0, 1), 1);
        edges.due("the other one's reason, then", x.why(1, 1), 2);
        x.invite(0, false);
        x.invite(1, false);
        edges.due("nobody is invited", x.company(0), 0);
        edges.due("one round then", x.rounds(), 1);
    }

    private void allAtOnceByConditions() {
        edges.sentence("STABLE COMPANIES", "in each round, all those stay away, at once, "
                + "whose conditions are not met by the set of this round");
        StableParty up = Edges.party("2:a", "a", "b");
        edges.due("upwards, a", up.why(0, 1), 1);
        edges.due("upwards, b", up.why(1, 1), 2);
        edges.due("upwards, c", up.why(2, 1), 3);
        edges.due("upwards, rounds", up.rounds(), 4);
        StableParty down = Edges.party("b", "c", "2:a");
        edges.due("downwards, c", down.why(2, 1), 1);
        edges.due("downwards, b", down.why(1, 1), 2);
        edges.due("downwards, a", down.why(0, 1), 3);
        edges.due("downwards, rounds", down.rounds(), 4);
        StableParty both = Edges.party("2:a", "a", "2:a", "c", "*");
        edges.due("two in one round", both.why(0, 1) + both.why(2, 1), 2);
        edges.due("two in the next one", both.why(1, 1) + both.why(3, 1), 4);
        edges.due("rounds", both.rounds(), 3);
        edges.due("one comes", both.company(0), 16);
        StableParty each = Edges.party("#5", "#5", "#5", "#5");
        edges.due("all in one round", each.rounds(), 2);
        edges.due("nobody comes", each.company(0), 0);
    }

    private void allAtOnceByFees() {
        edges.sentence("STABLE COMPANIES", "or whose limits are less than the fee of its number");
        StableParty x = Checks.partyOf(4);
        x.setLimit(0, 2999);
        x.setLimit(1, 3000);
        x.setLimit(2, 2999);
        edges.due("a, in the round 1", x.why(0, 1), 1);
        edges.due("c, in the round 1, too", x.why(2, 1), 1);
        edges.due("b, whose limit is the fee, in the round 2", x.why(1, 1), 2);
        edges.due("d comes", x.company(0), 8);
        x.setLimit(3, 10500);
        edges.due("d comes if the limit is the fee", x.company(0), 8);
        x.setLimit(3, 10499);
        edges.due("d stays away if it is a cent less", x.company(0), 0);
        edges.due("in the round 3", x.why(3, 1), 3);
        StableParty y = Checks.partyOf(2);
        y.setLimit(1, 5500);
        Checks.condition(y, 0, "b");
        edges.due("the fee of the round's number", y.company(0), 3);
        Checks.condition(y, 0, "2:b");
        edges.due("not of the next one's", y.why(1, 1), 2);
    }

    private void othersInTheNextRound() {
        edges.sentence("STABLE COMPANIES", "the next round has the others");
        StableParty x = Edges.party("2:a", "#4", "a|d", "#2&d", "*");
        edges.due("a alone in the round 1", x.why(0, 1), 1);
        edges.due("the others are four: b comes", x.why(1, 0), 0);
        edges.due("c has d", x.why(2, 0), 0);
        edges.due("four come", x.company(0), 30);
        x.invite(4, false);
        edges.due("the others are three: b", x.why(1, 1), 2);
        edges.due("c and d come", x.company(0), 12);
    }

    private void theFirstRoundWithoutAnyone() {
        edges.sentence("STABLE COMPANIES",
                "the first round in which nobody stays away has the greatest stable company");
        edges.due("the least number, without guests", new StableParty().rounds(), 1);
        edges.due("with twelve guests", Edges.full().rounds(), 1);
        StableParty x = Edges.chain();
        edges.due("the greatest number", x.rounds(), 13);
        edges.due("nobody is left", x.company(0), 0);
        for (int guest = 0; guest < 12; guest++) {
            edges.due("the round of " + guest, x.why(guest, 1), 12 - guest);
        }
        Checks.condition(x, 0, "*");
        edges.due("one round fewer", x.rounds(), 12);
        edges.due("one is left", x.company(0), 1);
        Checks.condition(x, 11, "*");
        edges.due("all come", x.rounds(), 1);
        StableParty fees = new StableParty();
        fees.set(1, 0);
        for (int guest = 0; guest < 12; guest++) {
            fees.addGuest((10000 + 11 - guest) / (12 - guest) - 1, 1);
        }
        edges.due("by fees, one by one, too", fees.rounds(), 13);
        edges.due("nobody is left", fees.company(0), 0);
        fees.setLimit(11, 10000);
        edges.due("the last one pays all", fees.company(0), 2048);
        edges.due("a round fewer", fees.rounds(), 12);
    }

    // ---- the reasons

    private void reasons() {
        threeReasons();
        conditionBeforeFee();
        conditionLeadsBack();
        conditionLeadsBackToUninvited();
        feeLeadsBack();
        feeLeadsBackToUninvited();
    }

    private void why(StableParty x, int guest, int... due) {
        for (int what = 0; what < 5; what++) {
            edges.due("why(" + guest + ", " + what + ")", x.why(guest, what), due[what]);
        }
    }

    private void threeReasons() {
        edges.sentence("STABLE COMPANIES",
                "A guest who stays away has a reason: 1 not invited; 2 the condition is not met; 3 the fee is too great");
        StableParty x = Edges.party("*", "2:b", "*", "*");
        x.invite(0, false);
        x.setLimit(2, 3833);
        why(x, 0, 1, 0, NONE, 1, 0);
        why(x, 1, 2, 1, NONE, 1, 1);
        why(x, 2, 3, 1, 0, 2, 0);
        why(x, 3, 0, NONE, NONE, NONE, NONE);
        x.setLimit(2, 3834);
        why(x, 2, 3, 2, 1, 2, 1);
        x.setLimit(2, 5499);
        why(x, 2, 3, 2, 1, 2, 1);
        x.setLimit(2, 5500);
        why(x, 2, 0, NONE, NONE, NONE, NONE);
    }

    private void conditionBeforeFee() {
        edges.sentence("STABLE COMPANIES", "(if both 2 and 3 hold, it is 2)");
        StableParty x = Edges.party("2:a", "a", "*");
        x.setLimit(0, 0);
        why(x, 0, 2, 1, NONE, 1, 0);
        x.setLimit(1, 3834);
        why(x, 1, 2, 2, 0, 2, 0);
        x.setLimit(1, 3833);
        why(x, 1, 3, 1, NONE, 1, 1);
        x.invite(0, false);
        why(x, 0, 1, 0, NONE, 1, 0);
        why(x, 1, 2, 1, 0, 2, 0);
    }

    private void conditionLeadsBack() {
        edges.sentence("STABLE COMPANIES", "A reason 2 leads back to the guest with the lowest number whose "
                + "letter stands in the condition and who stayed away in the round just before");
        StableParty several = Edges.party("2:a", "2:a", "2:a", "#4&3:bca");
        why(several, 3, 2, 2, 0, 2, 0);
        Checks.condition(several, 3, "#4&2:bc");
        why(several, 3, 2, 2, 1, 2, 1);
        Checks.condition(several, 3, "#4|c");
        why(several, 3, 2, 2, 2, 2, 2);
        Checks.condition(several, 3, "#4");
        why(several, 3, 2, 2, NONE, 1, 3);
        // a stays away in the round 1, b in the round 2, c in the round 3
        StableParty later = Edges.party("2:a", "a", "1:ab&#2");
        why(later, 2, 2, 3, 1, 3, 0);
        // a stays away in the round 1, c in the round 2, d in the round 3: a's letter stands in d's
        // condition, but a stayed away two rounds before
        StableParty twoBefore = Edges.party("2:a", "*", "a", "1:ab&#4", "*");
        why(twoBefore, 2, 2, 2, 0, 2, 0);
        why(twoBefore, 3, 2, 3, NONE, 1, 3);
        Checks.condition(twoBefore, 3, "1:ab&#4&c");
        why(twoBefore, 3, 2, 3, 2, 3, 0);
        // both stay away in the same round
        StableParty same = Edges.party("2:a", "2:b&a|2:a");
        why(same, 1, 2, 1, NONE, 1, 1);
        // a letter in a part that is not met anyway counts
        StableParty anyway = Edges.party("2:a", "2:b&a|#2");
        why(anyway, 1, 2, 2, 0, 2, 0);
    }

    private void conditionLeadsBackToUninvited() {
        edges.sentence("STABLE COMPANIES", "(or was not invited, if the round is the first one), if there is one");
        StableParty x = Edges.party("*", "*", "3:abd|b&c&d", "*");
        x.invite(0, false);
        x.invite(1, false);
        why(x, 2, 2, 1, 0, 2, 0);
        Checks.condition(x, 2, "b&a");
        why(x, 2, 2, 1, 0, 2, 0);
        Checks.condition(x, 2, "b&c");
        why(x, 2, 2, 1, 1, 2, 1);
        Checks.condition(x, 2, "#3");
        why(x, 2, 2, 1, NONE, 1, 2);
        Checks.condition(x, 2, "2:d");
        why(x, 2, 2, 1, NONE, 1, 2);
        // d stays away in the round 1, c in the round 2: the first two are not invited, but that is
        // no round just before
        Checks.condition(x, 3, "2:d");
        Checks.condition(x, 2, "1:abd");
        why(x, 2, 2, 2, 3, 2, 3);
        Checks.condition(x, 2, "#2|a|b");
        why(x, 2, 2, 2, NONE, 1, 2);
    }

    private void feeLeadsBack() {
        edges.sentence("STABLE COMPANIES",
                "a reason 3, to the guest with the lowest number who stayed away in the round just before");
        StableParty x = Edges.party("*", "2:b", "2:c", "c");
        x.setLimit(0, 3834);
        why(x, 0, 3, 2, 1, 2, 1);
        x.setLimit(0, 5500);
        why(x, 0, 3, 3, 3, 3, 2);
        x.setLimit(0, 10500);
        why(x, 0, 0, NONE, NONE, NONE, NONE);
        x.setLimit(0, 2999);
        why(x, 0, 3, 1, NONE, 1, 0);
        StableParty y = Checks.partyOf(3);
        y.setLimit(1, 3833);
        y.setLimit(0, 5499);
        why(y, 1, 3, 1, NONE, 1, 1);
        why(y, 0, 3, 2, 1, 2, 1);
        Checks.condition(y, 0, "c");
        why(y, 0, 3, 2, 1, 2, 1);
    }

    private void feeLeadsBackToUninvited() {
        edges.sentence("STABLE COMPANIES", "(or was not invited, in the first round), if there is one.");
        StableParty x = Checks.partyOf(5);
        x.invite(1, false);
        x.invite(2, false);
        x.setLimit(0, 3833);
        why(x, 0, 3, 1, 1, 2, 1);
        x.setLimit(3, 5499);
        why(x, 3, 3, 2, 0, 3, 1);
        x.invite(1, true);
        x.invite(2, true);
        x.setLimit(0, 2499);
        why(x, 0, 3, 1, NONE, 1, 0);
    }

    // ---- the chosen company

    private void chosenCompany() {
        places();
        greatestIfPlacesAreEnough();
        mostGuests();
        greatestWeights();
        leastBits();
    }

    private void places() {
        edges.sentence("STABLE COMPANIES", "There are 1 to 12 places (at first 12).");
        StableParty x = Edges.full();
        edges.due("at first", x.count(5), 12);
        edges.due("twelve find places", x.company(1), ALL);
        edges.due("the least", x.set(2, 1), 12);
        edges.due("is told", x.count(5), 1);
        edges.due("one finds a place", x.company(1), 1);
        edges.due("the greatest", x.set(2, 12), 1);
        edges.due("is told", x.count(5), 12);
        edges.due("twelve find places again", x.company(1), ALL);
        edges.leavesAll("no place", Edges::openWithRoom, y -> y.set(2, 0), BAD_VALUE);
        edges.leavesAll("13 places", Edges::openWithRoom, y -> y.set(2, 13), BAD_VALUE);
    }

    private void greatestIfPlacesAreEnough() {
        edges.sentence("STABLE COMPANIES",
                "The chosen company is the greatest stable one, if it has at most as many guests as there are places");
        for (int places = 1; places <= 12; places++) {
            StableParty x = Checks.partyOf(places);
            x.set(2, places);
            edges.due("just enough: " + places, x.company(1), (1 << places) - 1);
            if (places < 12) {
                x.addGuest(99999, 1);
                edges.due("one too many", Integer.bitCount(x.company(1)), places);
            }
        }
        StableParty y = Edges.party("b", "a", "*");
        y.invite(2, false);
        y.set(2, 2);
        edges.due("the greatest one counts, not the guests", y.company(1), 3);
        y.set(2, 1);
        edges.due("none with so few", y.company(1), 0);
        edges.due("without guests", new StableParty().company(1), 0);
    }

    private void mostGuests() {
        edges.sentence("STABLE COMPANIES",
                "otherwise, of all stable companies with at most so many guests, that with the most guests");
        StableParty x = Edges.party("b", "a", "*", "#4");
        x.setWeight(2, 9);
        x.set(2, 2);
        edges.due("two", x.company(1), 3);
        x.set(2, 3);
        edges.due("three", x.company(1), 7);
        x.set(2, 1);
        edges.due("one", x.company(1), 4);
        Checks.condition(x, 2, "a&d");
        x.set(2, 3);
        edges.due("only fewer than there are places", x.company(1), 3);
        x.set(2, 1);
        edges.due("none", x.company(1), 0);
    }

    private void greatestWeights() {
        edges.sentence("STABLE COMPANIES", "of several that with the greatest sum of weights");
        StableParty x = new StableParty();
        int[] weights = {2, 1, 1, 1, 1, 1, 1, 1, 1, 1, 1, 3};
        for (int weight : weights) {
            x.addGuest(99999, weight);
        }
        x.set(2, 1);
        edges.due("the greatest, with the highest number", x.company(1), 2048);
        x.set(2, 2);
        edges.due("the greatest sum", x.company(1), 2049);
        x.setWeight(11, 1);
        x.setWeight(10, 9);
        x.set(2, 1);
        edges.due("the greatest weight", x.company(1), 1024);
        x.set(2, 11);
        edges.due("eleven: the lowest ones", x.company(1), 2047);
        x.setWeight(11, 2);
        edges.due("eleven: all but the least weight with the highest number", x.company(1), ALL - 512);
        StableParty y = new StableParty();
        y.addGuest(99999, 9);
        y.addGuest(99999, 1);
        y.addGuest(99999, 6);
        y.addGuest(99999, 5);
        Checks.condition(y, 0, "b");
        y.set(2, 2);
        edges.due("the sum counts, not the greatest one", y.company(1), 12);
        y.setWeight(3, 4);
        edges.due("the same sum", y.company(1), 3);
    }

    private void leastBits() {
        edges.sentence("STABLE COMPANIES", "of several that with the least number as bits");
        for (int places = 1; places < 12; places++) {
            StableParty x = Edges.full();
            x.set(2, places);
            edges.due("of " + places, x.company(1), (1 << places) - 1);
        }
        StableParty y = Edges.party("d", "c", "b", "a", "*");
        y.set(2, 2);
        edges.due("6 is less than 9", y.company(1), 6);
        y.set(2, 3);
        edges.due("22 is less than 25", y.company(1), 22);
    }
}
