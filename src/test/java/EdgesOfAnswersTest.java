import java.io.IOException;

/** The boundary cases of the promises 17 to 29, sentence by sentence. */
public final class EdgesOfAnswersTest {
    private static final int UNKNOWN = StableParty.UNKNOWN;
    private static final int BAD_VALUE = StableParty.BAD_VALUE;
    private static final int NONE = StableParty.NONE;
    private static final int ALL = 4095;

    private final Edges edges = new Edges("EdgesOfAnswersTest");

    private EdgesOfAnswersTest() throws IOException {
    }

    public static void main(String[] args) throws IOException {
        EdgesOfAnswersTest test = new EdgesOfAnswersTest();
        test.guest();
        test.met();
        test.stable();
        test.fee();
        test.company();
        test.companies();
        test.why();
        test.rounds();
        test.needs();
        test.weightOf();
        test.leastLimit();
        test.seat();
        test.count();
        test.lastCalls();
        test.edges.finish();
    }

    private static StableParty uninvited(StableParty x, int... guests) {
        for (int guest : guests) {
            x.invite(guest, false);
        }
        return x;
    }

    private void guest() {
        edges.sentence("Promise 17", "`guest`: a guest");
        edges.refusesBeyond("guest", 0, 2, Edges::openWithRoom, (x, guest) -> x.guest(guest, 0), UNKNOWN);
        edges.refusesBeyond("guest of twelve", 0, 11, Edges::full, (x, guest) -> x.guest(guest, 0), UNKNOWN);
        edges.leavesAll("no guest at all", StableParty::new, x -> x.guest(0, 0), UNKNOWN);
        edges.sentence("Promise 17", "`what`: 0 for the limit");
        edges.refusesBeyond("what", 0, 7, Edges::openWithRoom, (x, what) -> x.guest(0, what), BAD_VALUE);
        edges.leavesAll("no guest and a bad what", Edges::openWithRoom, x -> x.guest(3, 8), UNKNOWN);
        edges.leavesAll("far out of range, both", Edges::openWithRoom,
                x -> x.guest(Edges.LEAST_INT, Edges.GREATEST_INT), UNKNOWN);
        StableParty x = Edges.open();
        int[][] due = {{99999, 1, 1, 0, 0, 3834, 0, NONE}, {99999, 1, 1, 400, 1, 3834, 1917, NONE},
            {8000, 4, 1, 200, 0, 3834, 0, NONE}};
        for (int guest = 0; guest < 3; guest++) {
            for (int what = 0; what < 8; what++) {
                edges.due("guest(" + guest + ", " + what + ")", x.guest(guest, what), due[guest][what]);
            }
        }
        guestNumbers();
        guestInvited();
        guestLetters();
        guestPaid();
        guestSeat();
    }

    private void guestNumbers() {
        edges.sentence("Promise 17", "0 for the limit, 1 for the weight");
        StableParty x = new StableParty();
        x.addGuest(0, 9);
        x.addGuest(99999, 1);
        edges.due("the least limit", x.guest(0, 0), 0);
        edges.due("the greatest weight", x.guest(0, 1), 9);
        edges.due("the greatest limit", x.guest(1, 0), 99999);
        edges.due("the least weight", x.guest(1, 1), 1);
        edges.sentence("Promise 17", "3 for the charges");
        x.set(3, 0);
        x.set(4, 9999);
        edges.due("no charges", x.guest(0, 3), 0);
        x.pass(1);
        for (int times = 1; times <= 5; times++) {
            x.setLimit(0, times);
            edges.due("charged so often: " + times, x.guest(0, 3), times * 9999);
        }
        edges.due("another one is not charged", x.guest(1, 3), 0);
        edges.sentence("Promise 17", "Returns the number; UNKNOWN; BAD_VALUE.");
        edges.due("no guest goes before a bad what", x.guest(2, -1), UNKNOWN);
        edges.due("a bad what", x.guest(1, -1), BAD_VALUE);
    }

    private void guestInvited() {
        edges.sentence("Promise 17", "2 for whether the guest is invited (1, otherwise 0)");
        StableParty x = uninvited(Edges.full(), 0, 11);
        edges.due("the first", x.guest(0, 2), 0);
        edges.due("the second", x.guest(1, 2), 1);
        edges.due("the last but one", x.guest(10, 2), 1);
        edges.due("the last", x.guest(11, 2), 0);
    }

    private void guestLetters() {
        edges.sentence("Promise 17", "4 for the guests whose letters stand in the condition (as bits)");
        StableParty x = Edges.full();
        edges.due("at first", x.guest(0, 4), 0);
        Checks.condition(x, 0, "#12|*");
        edges.due("no letter", x.guest(0, 4), 0);
        Checks.condition(x, 0, "a");
        edges.due("the least", x.guest(0, 4), 1);
        Checks.condition(x, 0, "l");
        edges.due("the last letter", x.guest(0, 4), 2048);
        Checks.condition(x, 0, "1:abcdef&(9:ghijkl|a)");
        edges.due("all", x.guest(0, 4), ALL);
        Checks.condition(x, 0, "*|b&2:ddc");
        edges.due("also letters that do not count", x.guest(0, 4), 14);
    }

    private void guestPaid() {
        edges.sentence("Promise 17", "5 for what the guest has paid so far, 6 for what the guest got back so far");
        StableParty x = Edges.party("*", "a");
        edges.due("nothing paid at first", x.guest(1, 5), 0);
        edges.due("nothing back at first", x.guest(1, 6), 0);
        for (int times = 1; times <= 3; times++) {
            x.fix();
            x.cancel(0);
            edges.due("paid so far", x.guest(1, 5), times * 5500);
            edges.due("got back so far", x.guest(1, 6), times * 2750);
            edges.due("never got back", x.guest(0, 6), 0);
            x.dissolve();
        }
    }

    private void guestSeat() {
        edges.sentence("Promise 17", "7 for the seat (NONE without one)");
        StableParty x = Edges.full();
        edges.due("none is fixed", x.guest(0, 7), NONE);
        x.fix();
        edges.due("the first seat", x.guest(0, 7), 0);
        edges.due("the last seat", x.guest(11, 7), 11);
        x.cancel(11);
        edges.due("who has left", x.guest(11, 7), NONE);
        x.dissolve();
        edges.due("dissolved", x.guest(0, 7), NONE);
    }

    private void met() {
        edges.sentence("Promise 18", "`guest`: a guest");
        edges.refusesBeyond("guest", 0, 2, Edges::openWithRoom, (x, guest) -> x.met(guest, 0), UNKNOWN);
        edges.leavesAll("no guest at all", StableParty::new, x -> x.met(0, 0), UNKNOWN);
        edges.leavesAll("far out of range, both", Edges::openWithRoom,
                x -> x.met(Edges.LEAST_INT, Edges.LEAST_INT), UNKNOWN);
        edges.sentence("Promise 18", "`set`: a set of guests, 0 to 4095");
        edges.refusesBeyond("set of twelve", 0, ALL, Edges::full, (x, set) -> x.met(0, set), BAD_VALUE);
        edges.due("the least", Edges.full().met(11, 0), 1);
        edges.due("the greatest", Edges.full().met(11, ALL), 1);
        edges.sentence("Promise 18", "Returns 1 if the condition of the guest is met by the set, otherwise 0; UNKNOWN "
                + "(guest); BAD_VALUE if any guest of the set does not exist.");
        edges.refusesBeyond("set of three", 0, 7, Edges::openWithRoom, (x, set) -> x.met(0, set), BAD_VALUE);
        for (int guests = 1; guests < 12; guests++) {
            StableParty x = Checks.partyOf(guests);
            edges.due("all of " + guests, x.met(0, (1 << guests) - 1), 1);
            edges.due("the next one of " + guests, x.met(0, 1 << guests), BAD_VALUE);
            edges.due("the first and the next one of " + guests, x.met(0, 1 + (1 << guests)), BAD_VALUE);
            edges.due("the last bit of " + guests, x.met(0, 2048), BAD_VALUE);
        }
        edges.due("just met", Edges.openWithRoom().met(1, 1), 1);
        edges.due("just not met", Edges.openWithRoom().met(1, 6), 0);
        edges.due("no guest and a bad set", Edges.openWithRoom().met(3, 8), UNKNOWN);
        edges.due("no guest and a set with it", Edges.openWithRoom().met(3, 9), UNKNOWN);
    }

    private void stable() {
        edges.sentence("Promise 19", "`set`: a set of guests, 0 to 4095");
        edges.refusesBeyond("set of twelve", 0, ALL, Edges::full, StableParty::stable, BAD_VALUE);
        edges.due("the least", Edges.full().stable(0), 1);
        edges.due("the greatest", Edges.full().stable(ALL), 1);
        edges.sentence("Promise 19",
                "Returns 1 if it is a stable company, otherwise 0; BAD_VALUE if any guest of the set does not exist.");
        edges.refusesBeyond("set of three", 0, 7, Edges::openWithRoom, StableParty::stable, BAD_VALUE);
        edges.leavesAll("the least set without guests", StableParty::new, x -> x.stable(0), 1);
        edges.leavesAll("a set without guests", StableParty::new, x -> x.stable(1), BAD_VALUE);
        for (int guests = 1; guests < 12; guests++) {
            StableParty x = uninvited(Checks.partyOf(guests), 0);
            edges.due("the first of " + guests + ", who is not invited", x.stable(1), 0);
            edges.due("the next one of " + guests, x.stable(1 << guests), BAD_VALUE);
            edges.due("one not invited, and the next one of " + guests, x.stable(1 + (1 << guests)), BAD_VALUE);
        }
    }

    private void fee() {
        edges.sentence("Promise 20", "`many`: 1 to 12");
        edges.refusesBeyond("many", 1, 12, Edges::openWithRoom, StableParty::fee, BAD_VALUE);
        edges.leavesAll("of nobody", StableParty::new, x -> x.fee(0), BAD_VALUE);
        edges.sentence("Promise 20", "Returns the fee of so many; BAD_VALUE.");
        StableParty x = new StableParty();
        edges.due("of one, without guests", x.fee(1), 10500);
        edges.due("of twelve, without guests", x.fee(12), 1334);
        x.set(0, 99999);
        x.set(1, 9999);
        edges.due("the greatest", x.fee(1), 109998);
        x.set(0, 0);
        x.set(1, 0);
        edges.due("the least", x.fee(12), 0);
    }

    private void company() {
        edges.sentence("Promise 21", "`what`: 0 for the greatest stable company, 1 for the chosen one");
        edges.refusesBeyond("what", 0, 3, Edges::openWithRoom, StableParty::company, BAD_VALUE);
        edges.refusesBeyond("what, fixed", 0, 3, Edges::fixedWithRoom, StableParty::company, BAD_VALUE);
        StableParty nobody = new StableParty();
        edges.due("without guests: the greatest", nobody.company(0), 0);
        edges.due("without guests: the chosen one", nobody.company(1), 0);
        StableParty twelve = Edges.full();
        edges.due("of twelve: the greatest", twelve.company(0), ALL);
        edges.due("of twelve: the chosen one", twelve.company(1), ALL);
        smallestCompany();
        fixedCompany();
    }

    private void smallestCompany() {
        edges.sentence("Promise 21",
                "2 for the smallest stable one that is not empty (of several the least number as bits)");
        StableParty x = Edges.full();
        edges.due("one of twelve", x.company(2), 1);
        for (int guest = 0; guest < 11; guest++) {
            Checks.condition(x, guest, "#2");
            edges.due("the first one who comes alone", x.company(2), 1 << guest + 1);
        }
        Checks.condition(x, 11, "#2");
        edges.due("two", x.company(2), 3);
        x.setLimit(0, 5499);
        edges.due("two others", x.company(2), 6);
        StableParty all = Edges.full();
        Checks.write(all, "#12");
        for (int guest = 0; guest < 12; guest++) {
            all.setCondition(guest);
        }
        edges.due("all twelve", all.company(2), ALL);
        StableParty high = Edges.party("#3", "#3", "#3", "e", "d");
        edges.due("fewer go before the least number", high.company(2), 24);
        StableParty low = Edges.party("e", "d", "*", "b", "a");
        low.setLimit(2, 5500);
        edges.due("10 is less than 17", low.company(2), 10);
        edges.sentence("Promise 21", "NONE for 2 if there is none, for 3 if none is fixed.");
        edges.leavesAll("without guests", StableParty::new, y -> y.company(2), NONE);
        edges.leavesAll("with one who does not come", () -> Edges.party("2:a"), y -> y.company(2), NONE);
        edges.leavesAll("nobody is invited", () -> uninvited(Checks.partyOf(2), 0, 1), y -> y.company(2), NONE);
        edges.leavesAll("none was fixed", StableParty::new, y -> y.company(3), NONE);
        edges.leavesAll("none is fixed any more", Edges::open, y -> y.company(3), NONE);
    }

    private void fixedCompany() {
        edges.sentence("Promise 21", "3 for the guests of the fixed company who are left");
        StableParty x = Edges.fixed(Edges.full());
        edges.due("twelve", x.company(3), ALL);
        for (int guest = 0; guest < 12; guest++) {
            x.cancel(guest);
            edges.due("without " + guest, x.company(3), ALL & -(2 << guest));
        }
        edges.due("nobody is left", x.company(3), 0);
        edges.due("the greatest one is still as the conditions say", x.company(0), ALL);
        edges.due("and the chosen one", x.company(1), ALL);
        edges.due("and the smallest one", x.company(2), 1);
    }

    private void companies() {
        edges.sentence("Promise 22", "Returns how many stable companies there are, with the empty one.");
        edges.due("without guests", new StableParty().companies(), 1);
        edges.due("none but the empty one", Edges.party("2:a", "a").companies(), 1);
        edges.due("nobody is invited", uninvited(Checks.partyOf(2), 0, 1).companies(), 1);
        for (int guests = 1; guests <= 12; guests++) {
            edges.due("all sets of " + guests, Checks.partyOf(guests).companies(), 1 << guests);
        }
        StableParty last = Edges.chain();
        Checks.condition(last, 11, "*");
        edges.due("each with all behind it", last.companies(), 13);
        StableParty x = Edges.party("#3", "#3", "#3");
        edges.due("the empty one and the greatest", x.companies(), 2);
        x.set(2, 1);
        edges.due("places do not count", x.companies(), 2);
    }

    private void whyIs(StableParty x, int guest, int... due) {
        for (int what = 0; what < 5; what++) {
            edges.due("why(" + guest + ", " + what + ")", x.why(guest, what), due[what]);
        }
    }

    private void why() {
        edges.sentence("Promise 23", "`guest`: a guest");
        edges.refusesBeyond("guest", 0, 2, Edges::openWithRoom, (x, guest) -> x.why(guest, 0), UNKNOWN);
        edges.refusesBeyond("guest of twelve", 0, 11, Edges::full, (x, guest) -> x.why(guest, 0), UNKNOWN);
        edges.leavesAll("no guest at all", StableParty::new, x -> x.why(0, 0), UNKNOWN);
        edges.sentence("Promise 23", "Returns the number; UNKNOWN; BAD_VALUE; NONE for 1 to 4");
        edges.leavesAll("no guest and a bad what", Edges::openWithRoom, x -> x.why(3, 5), UNKNOWN);
        edges.leavesAll("far out of range, both", Edges::openWithRoom,
                x -> x.why(Edges.GREATEST_INT, Edges.LEAST_INT), UNKNOWN);
        edges.leavesAll("a bad what of one who comes", Edges::openWithRoom, x -> x.why(0, 5), BAD_VALUE);
        edges.sentence("Promise 23", "`what`: 0 for the reason (0 if the guest does not stay away)");
        edges.refusesBeyond("what of one who comes", 0, 4, Edges::openWithRoom, (x, what) -> x.why(0, what), BAD_VALUE);
        edges.refusesBeyond("what of one who is not invited", 0, 4, Edges::openWithRoom,
                (x, what) -> x.why(1, what), BAD_VALUE);
        edges.due("who comes", Edges.full().why(11, 0), 0);
        edges.sentence("Promise 23", "1 for the round (0 for the reason 1)");
        edges.due("not invited", Edges.openWithRoom().why(1, 1), 0);
        edges.due("the first round", Edges.chain().why(11, 1), 1);
        edges.due("the last round", Edges.chain().why(0, 1), 12);
        edges.sentence("Promise 23", "2 for the guest to whom it leads back");
        edges.due("the lowest number", uninvited(Edges.party("*", "a"), 0).why(1, 2), 0);
        edges.due("the highest number", Edges.chain().why(10, 2), 11);
        edges.sentence("Promise 23", "3 for how many guests there are on the way back from one to another, with this "
                + "one (1 if it leads back to nobody)");
        edges.due("nobody", Edges.chain().why(11, 3), 1);
        edges.due("one", Edges.chain().why(10, 3), 2);
        edges.due("all", Edges.chain().why(0, 3), 12);
        edges.due("one who is not invited", Edges.openWithRoom().why(1, 3), 1);
        edges.sentence("Promise 23", "4 for the last guest on this way");
        edges.due("the guest itself", Edges.chain().why(11, 4), 11);
        edges.due("of two", Edges.chain().why(10, 4), 11);
        edges.due("of all", Edges.chain().why(0, 4), 11);
        edges.due("one who is not invited", Edges.openWithRoom().why(1, 4), 1);
        whyNone();
    }

    private void whyNone() {
        edges.sentence("Promise 23", "NONE for 1 to 4 if the guest does not stay away, for 2 if it leads back to nobody.");
        for (int what = 1; what <= 4; what++) {
            int which = what;
            edges.leavesAll("why(0, " + what + ") of one who comes", Edges::openWithRoom, x -> x.why(0, which), NONE);
        }
        whyIs(uninvited(Checks.partyOf(2), 1), 1, 1, 0, NONE, 1, 1);
        whyIs(Edges.party("2:a", "*"), 0, 2, 1, NONE, 1, 0);
        StableParty fee = Checks.partyOf(2);
        fee.setLimit(1, 5499);
        whyIs(fee, 1, 3, 1, NONE, 1, 1);
        // the way back goes from a fee to a condition, and from there to one who is not invited
        StableParty way = Edges.party("*", "a", "*", "c&*");
        way.setLimit(2, 5499);
        way.invite(0, false);
        whyIs(way, 1, 2, 1, 0, 2, 0);
        whyIs(way, 2, 3, 2, 1, 3, 0);
        whyIs(way, 3, 2, 3, 2, 4, 0);
        Edges.fixed(way);
        edges.due("nobody comes, so none is fixed", way.count(8), 0);
        StableParty fixed = Edges.fixed(uninvited(Edges.party("*", "a", "*"), 0));
        whyIs(fixed, 1, 2, 1, 0, 2, 0);
        fixed.cancel(2);
        whyIs(fixed, 2, 0, NONE, NONE, NONE, NONE);
    }

    private void rounds() {
        edges.sentence("Promise 24", "Returns the number of the first round in which nobody stays away.");
        edges.due("the least, without guests", new StableParty().rounds(), 1);
        edges.due("the least, nobody is invited", uninvited(Checks.partyOf(2), 0, 1).rounds(), 1);
        edges.due("the least, all come", Edges.full().rounds(), 1);
        edges.due("two, nobody comes", Edges.party("2:a").rounds(), 2);
        edges.due("the greatest", Edges.chain().rounds(), 13);
        edges.due("also when fixed", Edges.fixed(Edges.party("*", "2:b")).rounds(), 2);
    }

    private void needsOf(String condition, int guests, int due) {
        StableParty x = Checks.partyOf(guests);
        Checks.condition(x, 0, condition);
        edges.due("\"" + condition + "\", of " + guests, x.needs(0), due);
        for (int guest = 0; guest < guests; guest++) {
            x.invite(guest, false);
        }
        edges.due("\"" + condition + "\", of " + guests + " who are not invited", x.needs(0), due);
    }

    private void needs() {
        edges.sentence("Promise 25", "`guest`: a guest");
        edges.refusesBeyond("guest", 0, 2, Edges::openWithRoom, StableParty::needs, UNKNOWN);
        edges.leavesAll("no guest at all", StableParty::new, x -> x.needs(0), UNKNOWN);
        edges.due("the last one", Edges.full().needs(11), 0);
        edges.sentence("Promise 25", "(of all that there are, invited or not)");
        needsOf("b&c", 3, 2);
        needsOf("#3", 3, 3);
        edges.sentence("Promise 25", "Returns how many guests such a set has at least; UNKNOWN; NONE if not even all of "
                + "them meet it.");
        needsOf("*", 1, 0);
        needsOf("a", 1, 1);
        for (int n = 1; n <= 12; n++) {
            needsOf("#" + n, n, n);
            needsOf("#" + n, 12, n);
            if (n > 1) {
                needsOf("#" + n, n - 1, NONE);
            }
        }
        needsOf("a&b&c&d&e&f&g&h&i&j&k&l", 12, 12);
        needsOf("a&b&c&d&e&f&g&h&i&j&k&l|l", 12, 1);
        needsOf("9:abcdefghi", 12, 9);
        needsOf("9:abcdefgh", 12, NONE);
        needsOf("2:a", 12, NONE);
        needsOf("a&b|c", 3, 1);
        needsOf("a&b&c|d&e|f", 6, 1);
        needsOf("2:a|#12", 12, 12);
        needsOf("2:a|#12", 11, NONE);
        edges.leavesAll("not even all", () -> Edges.party("2:aa"), x -> x.needs(0), NONE);
    }

    private void weightOf() {
        edges.sentence("Promise 26", "`guest`: a guest");
        edges.refusesBeyond("guest", 0, 2, Edges::openWithRoom, StableParty::weightOf, UNKNOWN);
        edges.leavesAll("no guest at all", StableParty::new, x -> x.weightOf(0), UNKNOWN);
        edges.sentence("Promise 26",
                "Tells how many fewer guests the greatest stable company would have without the invitation of a guest.");
        edges.due("who stays away anyway", Edges.party("2:a", "*").weightOf(0), 0);
        StableParty fees = Checks.partyOf(4);
        fees.setLimit(1, 3000);
        fees.setLimit(2, 3834);
        edges.due("the fee grows for all", fees.weightOf(3), 3);
        edges.due("the others' limits allow it", fees.weightOf(1), 1);
        fees.setLimit(0, 10499);
        fees.setLimit(1, 3834);
        edges.due("not for all", fees.weightOf(3), 1);
        edges.sentence("Promise 26", "Returns the number, this guest counted; UNKNOWN; NONE if the guest is not invited.");
        edges.due("only this one", Edges.full().weightOf(11), 1);
        edges.due("the only one", Edges.party("*").weightOf(0), 1);
        StableParty last = Edges.chain();
        Checks.condition(last, 11, "*");
        edges.due("all twelve", last.weightOf(11), 12);
        edges.due("the first one only", last.weightOf(0), 1);
        edges.leavesAll("the party stays as it is", Edges::openWithRoom, x -> x.weightOf(2), 1);
        edges.leavesAll("also when fixed", Edges::fixedWithRoom, x -> x.weightOf(0), 3);
        edges.leavesAll("not invited", Edges::openWithRoom, x -> x.weightOf(1), NONE);
    }

    private void leastLimit() {
        edges.sentence("Promise 27", "`guest`: a guest");
        edges.refusesBeyond("guest", 0, 2, Edges::openWithRoom, StableParty::leastLimit, UNKNOWN);
        edges.leavesAll("no guest at all", StableParty::new, x -> x.leastLimit(0), UNKNOWN);
        edges.sentence("Promise 27",
                "Finds the least limit with which a guest would be in the greatest stable company, all else as it is.");
        for (int guest = 0; guest < 12; guest += 11) {
            StableParty x = Edges.full();
            x.setLimit(guest, 0);
            int limit = x.leastLimit(guest);
            edges.due("the fee of twelve", limit, 1334);
            x.setLimit(guest, limit);
            edges.due("is enough", x.company(0), ALL);
            x.setLimit(guest, limit - 1);
            edges.due("a cent less is not", x.company(0), ALL - (1 << guest));
        }
        edges.leavesAll("the party stays as it is", Edges::openWithRoom, x -> x.leastLimit(2), 5500);
        edges.leavesAll("also when fixed", Edges::fixedWithRoom, x -> x.leastLimit(0), 3834);
        // with b there are three, as c wants b; without, only a
        StableParty others = Edges.party("*", "*", "b");
        others.setLimit(1, 0);
        edges.due("who brings another one along", others.leastLimit(1), 3834);
        others.setLimit(2, 3833);
        edges.due("who does not bring that one along", others.leastLimit(1), 5500);
        edges.sentence("Promise 27",
                "Returns the limit; UNKNOWN; NONE if none up to 99999 is enough, or the guest is not invited.");
        StableParty alone = Checks.partyOf(1);
        alone.set(0, 99999);
        alone.set(1, 0);
        alone.setLimit(0, 0);
        edges.due("the greatest", alone.leastLimit(0), 99999);
        alone.set(1, 1);
        edges.due("a cent more", alone.leastLimit(0), NONE);
        alone.set(1, 9999);
        edges.due("much more", alone.leastLimit(0), NONE);
        alone.set(0, 0);
        alone.set(1, 0);
        edges.due("the least", alone.leastLimit(0), 0);
        edges.leavesAll("the condition is never met", () -> Edges.party("2:a"), x -> x.leastLimit(0), NONE);
        edges.leavesAll("not invited", Edges::openWithRoom, x -> x.leastLimit(1), NONE);
    }

    private void seat() {
        edges.sentence("Promise 28", "`seat`: 0 to 11");
        edges.refusesBeyond("seat", 0, 11, Edges::fixedWithRoom, StableParty::seat, UNKNOWN);
        edges.refusesBeyond("seat, none fixed", 0, 11, StableParty::new, StableParty::seat, UNKNOWN);
        StableParty x = Edges.fixed(Edges.full());
        edges.due("the least", x.seat(0), 0);
        edges.due("the greatest", x.seat(11), 11);
        edges.sentence("Promise 28", "Returns the guest on it; UNKNOWN; NONE if it is empty.");
        x.cancel(0);
        edges.leavesAll("behind the last one", Edges::fixedWithRoom, y -> y.seat(3), NONE);
        edges.leavesAll("of one who left", Edges::fixedParty, y -> y.seat(2), NONE);
        edges.due("the first one left", x.seat(0), NONE);
        edges.due("the next one stays", x.seat(1), 1);
        edges.leavesAll("the least, without guests", StableParty::new, y -> y.seat(0), NONE);
        edges.leavesAll("the greatest, without guests", StableParty::new, y -> y.seat(11), NONE);
    }

    private void count() {
        edges.sentence("Promise 29", "`what`: 0 for the day, 1 for guests");
        edges.refusesBeyond("what", 0, 16, Edges::openWithRoom, StableParty::count, BAD_VALUE);
        edges.refusesBeyond("what of a new party", 0, 16, StableParty::new, StableParty::count, BAD_VALUE);
        StableParty x = Edges.fixed(Edges.chain());
        edges.due("guests", x.count(1), 12);
        edges.due("invited", x.count(2), 12);
        countSettings();
        edges.sentence("Promise 29", "8 for whether a company is fixed (1, otherwise 0)");
        edges.due("none, as nobody comes", x.count(8), 0);
        edges.due("one", Edges.fixedParty().count(8), 1);
        StableParty left = Edges.fixed(Checks.partyOf(1));
        left.cancel(0);
        edges.due("one of which nobody is left", left.count(8), 1);
        edges.due("none any more", Edges.open().count(8), 0);
        countSoFar();
        edges.sentence("Promise 29", "15 for the states in the history, 16 for the length of the text");
        StableParty y = new StableParty();
        edges.due("no state", y.count(15), 0);
        edges.due("no character", y.count(16), 0);
        for (int i = 1; i <= 61; i++) {
            y.type('a');
            edges.due("characters", y.count(16), Math.min(i, 60));
        }
        for (int i = 1; i <= 5; i++) {
            y.pass(1);
            edges.due("states", y.count(15), Math.min(i, 4));
        }
    }

    private void countSettings() {
        edges.sentence("Promise 29", "0 for the day, 1 for guests, 2 for those who are invited");
        StableParty x = Checks.partyOf(12);
        for (int guest = 0; guest < 12; guest++) {
            edges.due("invited", x.count(2), 12 - guest);
            x.invite(guest, false);
        }
        edges.due("nobody is invited", x.count(2), 0);
        edges.due("but all are guests", x.count(1), 12);
        x.pass(60);
        edges.due("the day", x.count(0), 60);
        edges.sentence("Promise 29", "3 for the hall, 4 for the head, 5 for the places, 6 for the closing, 7 for the "
                + "late charge");
        int[] least = {0, 0, 1, 0, 0};
        int[] most = {99999, 9999, 12, 999, 9999};
        for (int what = 0; what < 5; what++) {
            x.set(what, most[what]);
        }
        for (int what = 0; what < 5; what++) {
            edges.due("the greatest: " + what, x.count(3 + what), most[what]);
            x.set(what, least[what]);
            edges.due("the least: " + what, x.count(3 + what), least[what]);
        }
        edges.sentence("Promise 29", "Returns the number; BAD_VALUE.");
        edges.due("beyond the last one", x.count(17), BAD_VALUE);
        edges.due("beyond the first one", x.count(-1), BAD_VALUE);
    }

    private void countSoFar() {
        edges.sentence("Promise 29", "9 for all that was paid, 10 for all that was given back, 11 for companies that "
                + "were fixed so far, 12 for cancellations so far, 13 for guests who left by those of others so far, "
                + "14 for all charges");
        StableParty x = Checks.partyOf(12);
        for (int guest = 1; guest < 12; guest++) {
            Checks.condition(x, guest, "a");
        }
        for (int times = 1; times <= 3; times++) {
            x.fix();
            edges.due("paid", x.count(9), times * 12 * 1334);
            edges.due("fixed", x.count(11), times);
            x.cancel(0);
            edges.due("given back", x.count(10), times * 11 * 667);
            edges.due("cancelled", x.count(12), times);
            edges.due("left by another", x.count(13), times * 11);
            edges.due("refused", x.cancel(1), StableParty.NOT_POSSIBLE);
            edges.due("a refused one is not counted", x.count(12), times);
            x.dissolve();
        }
        x.set(3, 0);
        x.set(4, 9999);
        x.pass(1);
        for (int guest = 0; guest < 12; guest++) {
            x.setLimit(guest, 0);
            edges.due("charges of all", x.count(14), (guest + 1) * 9999);
        }
    }

    /** Of 512 calls, the last one answers as the first one does. */
    private void lastCalls() {
        edges.sentence("What it is", "An object is used for at most 512 calls after it has been made");
        StableParty x = new StableParty();
        x.addGuest(99999, 1);
        x.addGuest(99999, 1);
        for (int i = 0; i < 254; i++) {
            edges.due("fix", x.fix(), 11000);
            edges.due("dissolve", x.dissolve(), 2);
        }
        edges.due("the call 511", x.fix(), 11000);
        edges.due("the call 512", x.count(11), 255);
        StableParty late = new StableParty();
        late.set(3, 0);
        late.set(4, 9999);
        late.addGuest(0, 1);
        late.pass(1);
        for (int i = 1; i <= 507; i++) {
            late.setLimit(0, i % 2);
        }
        edges.due("the call 512, all charges", late.count(14), 507 * 9999);
    }
}
