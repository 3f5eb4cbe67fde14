/** Promises 17 to 29: what is told. */
public final class ToldTest {
    private static final int UNKNOWN = StableParty.UNKNOWN;
    private static final int BAD_VALUE = StableParty.BAD_VALUE;
    private static final int NONE = StableParty.NONE;
    private static final int EXTREME = Integer.MIN_VALUE;
    private static final Checks checks = new Checks("ToldTest");

    public static void main(String[] args) {
        guest();
        met();
        metOfAtoms();
        stable();
        fee();
        greatestCompany();
        chosenCompany();
        smallestCompany();
        fixedCompany();
        companies();
        whyOneAfterAnother();
        whyFees();
        whyLeadsBack();
        whyErrors();
        rounds();
        needs();
        weightOf();
        leastLimit();
        seat();
        count();
        checks.finish();
    }

    /** Promise 17. */
    private static void guest() {
        StableParty x = new StableParty();
        x.addGuest(20000, 7);
        x.addGuest(30000, 2);
        Checks.condition(x, 1, "a&1:bbb|#2");
        x.pass(11);
        x.setLimit(1, 31000);
        int[] due = {31000, 2, 1, 200, 3, 0, 0, NONE};
        for (int what = 0; what < 8; what++) {
            checks.due("guest(1, " + what + ")", x.guest(1, what), due[what]);
        }
        x.fix();
        x.cancel(0);
        int[] dueThen = {31000, 2, 1, 0, 3, 5700, 2750, NONE};
        for (int what = 0; what < 8; what++) {
            checks.due("guest(1, " + what + ") then", x.guest(1, what), dueThen[what]);
        }
        x.undo();
        checks.due("the seat", x.guest(1, 7), 1);
        checks.due("guest(2, 0)", x.guest(2, 0), UNKNOWN);
        checks.due("guest(-1, 0)", x.guest(-1, 0), UNKNOWN);
        checks.due("guest(0, -1)", x.guest(0, -1), BAD_VALUE);
        checks.due("guest(0, 8)", x.guest(0, 8), BAD_VALUE);
        checks.due("no guest goes before a bad value", x.guest(2, 8), UNKNOWN);
        checks.due("extreme values", x.guest(EXTREME, EXTREME), UNKNOWN);
        x.dissolve();
        x.invite(1, false);
        checks.due("not invited", x.guest(1, 2), 0);
    }

    /** Promise 18. */
    private static void met() {
        StableParty x = Checks.partyOf(3);
        x.invite(2, false);
        Checks.condition(x, 0, "c");
        checks.due("met by one who is not invited", x.met(0, 4), 1);
        checks.due("not met", x.met(0, 3), 0);
        checks.due("met by more", x.met(0, 7), 1);
        checks.due("the set may lack the guest", x.met(1, 0), 1);
        checks.due("met(0, 8)", x.met(0, 8), BAD_VALUE);
        checks.due("met(0, 12)", x.met(0, 12), BAD_VALUE);
        checks.due("met(0, -1)", x.met(0, -1), BAD_VALUE);
        checks.due("met(0, 4096)", x.met(0, 4096), BAD_VALUE);
        checks.due("met(0, ..) of an extreme value", x.met(0, EXTREME), BAD_VALUE);
        checks.due("met(3, 0)", x.met(3, 0), UNKNOWN);
        checks.due("met(-1, 0)", x.met(-1, 0), UNKNOWN);
        checks.due("no guest goes before a bad value", x.met(3, 8), UNKNOWN);
        StableParty y = Checks.partyOf(12);
        checks.due("met(11, 4095)", y.met(11, 4095), 1);
        checks.due("met(11, 4096)", y.met(11, 4096), BAD_VALUE);
    }

    private static void metBy(String condition, int set, int due) {
        StableParty x = Checks.partyOf(12);
        int letters = Checks.condition(x, 0, condition);
        checks.due("\"" + condition + "\" has no fault", Math.min(letters, 0), 0);
        checks.due("\"" + condition + "\" by " + set, x.met(0, set), due);
    }

    private static void metOfAtoms() {
        metBy("*", 0, 1);
        metBy("l", 2048, 1);
        metBy("l", 2047, 0);
        metBy("2:abc", 1, 0);
        metBy("2:abc", 5, 1);
        metBy("2:abc", 9, 0);
        metBy("2:aab", 1, 0);
        metBy("2:aab", 3, 1);
        metBy("3:ab", 4095, 0);
        metBy("9:abcdefghijkl", 511, 1);
        metBy("9:abcdefghijkl", 255, 0);
        metBy("#1", 0, 0);
        metBy("#1", 2048, 1);
        metBy("#10", 1023, 1);
        metBy("#10", 511, 0);
        metBy("#12", 4095, 1);
        metBy("#12", 4094, 0);
        metBy("#11", 4094, 1);
        metBy("#2", 2049, 1);
        metBy("a|b&c", 1, 1);
        metBy("a|b&c", 2, 0);
        metBy("a|b&c", 6, 1);
        metBy("a&b|c", 4, 1);
        metBy("a&b|c", 1, 0);
        metBy("(a|b)&c", 1, 0);
        metBy("(a|b)&c", 6, 1);
        metBy("a&(b|c)", 4, 0);
        metBy("a&(b|c)", 5, 1);
        metBy("a&(b&c)|d", 8, 1);
        metBy("(a&b)|(c&d)", 5, 0);
        metBy("(a&b)|(c&d)", 12, 1);
        metBy("((a|b)&(c|d))&e", 26, 1);
        metBy("((a|b)&(c|d))&e", 19, 0);
        metBy("((a|b)&(c|d))&e", 10, 0);
        metBy("a|b|c", 1, 1);
        metBy("a|b|c", 2, 1);
        metBy("a|b|c", 8, 0);
        metBy("a|(b)|c", 1, 1);
        metBy("a|(b)|c", 2, 1);
        metBy("a|(b)", 1, 1);
        metBy("a|(b|(c))", 1, 1);
        metBy("a|(b|(c))", 2, 1);
        metBy("(a|b)|c&(d)", 1, 1);
        metBy("d&(a|(b))", 1, 0);
        metBy("d&(a|(b))", 9, 1);
        metBy("(a|(b&c))&(d|(e&f))", 8, 0);
        metBy("(a|(b&c))&(d|(e&f))", 49, 1);
        metBy("a|(b|c&(d|e))", 20, 1);
        metBy("a|(b|c&(d|e))", 4, 0);
        metBy("(((((((a&b|c)&d|e)&f|g)&h|i)&j|k)&l|a)&b|c)", 4, 1);
        metBy("(((((((a&b|c)&d|e)&f|g)&h|i)&j|k)&l|a)&b|c)", 2, 0);
        metBy("(((((((a&b|c)&d|e)&f|g)&h|i)&j|k)&l|a)&b|c)", 3, 1);
        metBy("(((((((a&b|c)&d|e)&f|g)&h|i)&j|k)&l|a)&b|c)", 2066, 0);
        metBy("((((((((a)))))))|b)&c", 5, 1);
        metBy("((((((((a)))))))|b)&c", 1, 0);
    }

    /** Promise 19. */
    private static void stable() {
        StableParty x = Checks.partyOf(4);
        x.setLimit(2, 5500);
        Checks.condition(x, 3, "a");
        checks.due("stable(0)", x.stable(0), 1);
        checks.due("alone, the fee is too great", x.stable(4), 0);
        checks.due("with another, it is just the limit", x.stable(5), 1);
        checks.due("the condition is not met", x.stable(8), 0);
        checks.due("the condition is met", x.stable(9), 1);
        checks.due("all", x.stable(15), 1);
        checks.due("one who wants nothing", x.stable(2), 1);
        x.setLimit(2, 5499);
        checks.due("a cent too few", x.stable(5), 0);
        x.invite(0, false);
        checks.due("not invited", x.stable(1), 0);
        checks.due("with one who is not invited", x.stable(9), 0);
        checks.due("stable(16)", x.stable(16), BAD_VALUE);
        checks.due("stable(17)", x.stable(17), BAD_VALUE);
        checks.due("stable(-1)", x.stable(-1), BAD_VALUE);
        checks.due("stable(4096)", x.stable(4096), BAD_VALUE);
        checks.due("stable of an extreme value", x.stable(EXTREME), BAD_VALUE);
    }

    /** Promise 20. */
    private static void fee() {
        StableParty x = new StableParty();
        int[] due = {10500, 5500, 3834, 3000, 2500, 2167, 1929, 1750, 1612, 1500, 1410, 1334};
        for (int many = 1; many <= 12; many++) {
            checks.due("fee(" + many + ")", x.fee(many), due[many - 1]);
        }
        checks.due("fee(0)", x.fee(0), BAD_VALUE);
        checks.due("fee(13)", x.fee(13), BAD_VALUE);
        checks.due("fee(-1)", x.fee(-1), BAD_VALUE);
        x.set(0, 99999);
        x.set(1, 9999);
        checks.due("the greatest fee", x.fee(1), 109998);
        checks.due("half of it", x.fee(2), 59999);
        x.set(0, 0);
        checks.due("no hall", x.fee(7), 9999);
        x.set(0, 1);
        x.set(1, 0);
        checks.due("rounded up", x.fee(12), 1);
    }

    /** Promise 21. */
    private static void greatestCompany() {
        StableParty x = Checks.partyOf(4);
        checks.due("all come", x.company(0), 15);
        x.invite(1, false);
        checks.due("but who is not invited", x.company(0), 13);
        Checks.condition(x, 2, "b");
        Checks.condition(x, 3, "c|#4");
        checks.due("one after another", x.company(0), 1);
        x.setLimit(0, 10499);
        checks.due("the last one, too", x.company(0), 0);
        x.setLimit(0, 10500);
        checks.due("the fee is the limit", x.company(0), 1);
        checks.due("company(-1)", x.company(-1), BAD_VALUE);
        checks.due("company(4)", x.company(4), BAD_VALUE);
        StableParty y = Checks.partyOf(2);
        Checks.condition(y, 0, "b");
        Checks.condition(y, 1, "a");
        checks.due("both, as each has the other one", y.company(0), 3);
        StableParty z = Checks.partyOf(1);
        z.set(0, 99999);
        checks.due("a fee of 100499", z.company(0), 0);
        z.set(1, 0);
        checks.due("a fee of 99999", z.company(0), 1);
    }

    private static void chosenCompany() {
        StableParty x = new StableParty();
        int[] weights = {1, 5, 5, 5, 1};
        for (int weight : weights) {
            x.addGuest(99999, weight);
        }
        checks.due("all find places", x.company(1), 31);
        x.set(2, 5);
        checks.due("just enough places", x.company(1), 31);
        x.set(2, 4);
        checks.due("the least number of the best", x.company(1), 15);
        x.set(2, 2);
        checks.due("the greatest weights", x.company(1), 6);
        x.setWeight(4, 9);
        checks.due("greater weights", x.company(1), 18);
        x.setWeight(3, 6);
        checks.due("still greater ones", x.company(1), 24);
        Checks.condition(x, 4, "#3");
        checks.due("but it must be stable", x.company(1), 10);
        x.set(2, 1);
        checks.due("one place", x.company(1), 8);
        x.invite(3, false);
        checks.due("one place, the least number", x.company(1), 2);
        checks.due("the greatest one is not asked for places", x.company(0), 23);

        StableParty y = new StableParty();
        y.addGuest(99999, 1);
        y.addGuest(99999, 1);
        y.addGuest(99999, 9);
        Checks.condition(y, 0, "b");
        Checks.condition(y, 1, "a");
        y.set(2, 2);
        checks.due("more guests go before weights", y.company(1), 3);
        y.set(2, 1);
        checks.due("of one place, the only one", y.company(1), 4);
        Checks.condition(y, 2, "a");
        checks.due("none finds places", y.company(1), 0);

        StableParty z = new StableParty();
        z.addGuest(99999, 9);
        z.addGuest(99999, 8);
        z.set(2, 1);
        checks.due("the first one", z.company(1), 1);
    }

    private static void smallestCompany() {
        StableParty x = Checks.partyOf(4);
        checks.due("the least number", x.company(2), 1);
        Checks.condition(x, 0, "b");
        Checks.condition(x, 1, "a");
        Checks.condition(x, 2, "d");
        Checks.condition(x, 3, "a|b");
        checks.due("the least of two", x.company(2), 3);
        Checks.condition(x, 3, "*");
        checks.due("fewer go before the least number", x.company(2), 8);
        x.setLimit(3, 10499);
        checks.due("two again", x.company(2), 3);
        Checks.condition(x, 0, "b&c");
        checks.due("two others", x.company(2), 12);
        x.invite(3, false);
        checks.due("none", x.company(2), NONE);
        x.invite(3, true);
        x.set(2, 1);
        checks.due("places do not count", x.company(2), 12);
        StableParty y = Checks.partyOf(12);
        for (int guest = 0; guest < 12; guest++) {
            Checks.condition(y, guest, "#12");
        }
        checks.due("all twelve", y.company(2), 4095);
        checks.due("all twelve and none", y.companies(), 2);
    }

    private static void fixedCompany() {
        StableParty x = Checks.partyOf(3);
        checks.due("none is fixed", x.company(3), NONE);
        x.fix();
        checks.due("all", x.company(3), 7);
        x.cancel(1);
        checks.due("who are left", x.company(3), 5);
        x.cancel(0);
        x.cancel(2);
        checks.due("nobody is left", x.company(3), 0);
        x.dissolve();
        checks.due("dissolved", x.company(3), NONE);
    }

    /** Promise 22. */
    private static void companies() {
        StableParty x = Checks.partyOf(12);
        checks.due("all sets", x.companies(), 4096);
        x.set(0, 99999);
        x.set(1, 9999);
        checks.due("all sets but those of one guest", x.companies(), 4096 - 12);
        x.set(2, 1);
        checks.due("places do not count", x.companies(), 4096 - 12);
        x.invite(11, false);
        checks.due("with one guest fewer", x.companies(), 2048 - 11);
        StableParty y = Checks.partyOf(3);
        Checks.condition(y, 0, "b");
        Checks.condition(y, 1, "a");
        checks.due("none, c, a and b, all", y.companies(), 4);
        y.setLimit(2, 3999);
        checks.due("none, a and b, all", y.companies(), 3);
        y.invite(0, false);
        checks.due("only the empty one", y.companies(), 1);
    }

    private static void why(StableParty x, int guest, int... due) {
        for (int what = 0; what < 5; what++) {
            checks.due("why(" + guest + ", " + what + ")", x.why(guest, what), due[what]);
        }
    }

    /** Promise 23. */
    private static void whyOneAfterAnother() {
        StableParty x = Checks.partyOf(5);
        x.invite(0, false);
        Checks.condition(x, 1, "a");
        Checks.condition(x, 2, "b");
        Checks.condition(x, 3, "c&#2");
        why(x, 0, 1, 0, NONE, 1, 0);
        why(x, 1, 2, 1, 0, 2, 0);
        why(x, 2, 2, 2, 1, 3, 0);
        why(x, 3, 2, 3, 2, 4, 0);
        why(x, 4, 0, NONE, NONE, NONE, NONE);
        checks.due("rounds()", x.rounds(), 4);
        x.invite(0, true);
        why(x, 3, 0, NONE, NONE, NONE, NONE);
    }

    private static void whyFees() {
        StableParty x = Checks.partyOf(5);
        x.set(0, 1001);
        x.set(1, 0);
        x.setLimit(0, 200);
        x.setLimit(1, 250);
        x.setLimit(2, 333);
        x.setLimit(3, 501);
        why(x, 0, 3, 1, NONE, 1, 0);
        why(x, 1, 3, 2, 0, 2, 0);
        why(x, 2, 3, 3, 1, 3, 0);
        why(x, 3, 0, NONE, NONE, NONE, NONE);
        checks.due("rounds()", x.rounds(), 4);
        x.invite(4, false);
        why(x, 0, 3, 1, 4, 2, 4);
        why(x, 1, 3, 1, 4, 2, 4);
        why(x, 2, 3, 2, 0, 3, 4);
        why(x, 3, 3, 3, 2, 4, 4);
        Checks.condition(x, 1, "#5");
        why(x, 1, 2, 1, NONE, 1, 1);
        Checks.condition(x, 1, "#5|e");
        why(x, 1, 2, 1, 4, 2, 4);
    }

    private static void whyLeadsBack() {
        StableParty x = Checks.partyOf(6);
        Checks.condition(x, 0, "#7|c");
        Checks.condition(x, 1, "#7");
        Checks.condition(x, 2, "#7");
        Checks.condition(x, 3, "2:fcb&a|#7");
        Checks.condition(x, 4, "d&*");
        Checks.condition(x, 5, "a|d|e");
        why(x, 1, 2, 1, NONE, 1, 1);
        why(x, 2, 2, 1, NONE, 1, 2);
        why(x, 0, 2, 2, 2, 2, 2);
        why(x, 3, 2, 2, 1, 2, 1);
        why(x, 4, 2, 3, 3, 3, 1);
        why(x, 5, 2, 4, 4, 4, 1);
        checks.due("rounds()", x.rounds(), 5);
        Checks.condition(x, 5, "#6|a&*&d");
        why(x, 5, 2, 3, 0, 3, 2);
        Checks.condition(x, 5, "#6");
        why(x, 5, 2, 2, NONE, 1, 5);
        Checks.condition(x, 5, "#6|a&b&e");
        why(x, 5, 2, 2, 1, 2, 1);
        Checks.condition(x, 5, "#6|9:ade");
        why(x, 5, 2, 2, NONE, 1, 5);
        StableParty y = Checks.partyOf(4);
        Checks.condition(y, 1, "#5");
        Checks.condition(y, 2, "b");
        Checks.condition(y, 3, "b|c");
        why(y, 3, 2, 3, 2, 3, 1);
        y.invite(0, false);
        Checks.condition(y, 3, "a|#4|b&c");
        why(y, 3, 2, 2, 1, 2, 1);
    }

    private static void whyErrors() {
        StableParty x = Checks.partyOf(2);
        checks.due("why(2, 0)", x.why(2, 0), UNKNOWN);
        checks.due("why(-1, 0)", x.why(-1, 0), UNKNOWN);
        checks.due("why(0, -1)", x.why(0, -1), BAD_VALUE);
        checks.due("why(0, 5)", x.why(0, 5), BAD_VALUE);
        checks.due("no guest goes before a bad value", x.why(2, 5), UNKNOWN);
        checks.due("extreme values", x.why(EXTREME, EXTREME), UNKNOWN);
    }

    /** Promise 24. */
    private static void rounds() {
        StableParty x = new StableParty();
        checks.due("nobody", x.rounds(), 1);
        for (int guest = 0; guest < 12; guest++) {
            x.addGuest(99999, 1);
        }
        checks.due("all come", x.rounds(), 1);
        Checks.condition(x, 0, "9:a");
        checks.due("one stays away", x.rounds(), 2);
        for (int guest = 1; guest < 12; guest++) {
            Checks.condition(x, guest, "" + (char) ('a' + guest - 1));
        }
        checks.due("all stay away, one by one", x.rounds(), 13);
        checks.due("the way back of the last one", x.why(11, 3), 12);
        checks.due("its end", x.why(11, 4), 0);
        checks.due("its round", x.why(11, 1), 12);
        x.invite(0, false);
        checks.due("one is not invited", x.rounds(), 12);
        x.fix();
        checks.due("nothing is fixed", x.count(8), 0);
    }

    private static void needsOf(String condition, int guests, int due) {
        StableParty x = Checks.partyOf(guests);
        Checks.condition(x, 0, condition);
        checks.due("needs of \"" + condition + "\" of " + guests, x.needs(0), due);
    }

    /** Promise 25. */
    private static void needs() {
        needsOf("*", 1, 0);
        needsOf("a", 1, 1);
        needsOf("#1", 2, 1);
        needsOf("#12", 12, 12);
        needsOf("#12", 11, NONE);
        needsOf("#5", 4, NONE);
        needsOf("3:aab", 4, NONE);
        needsOf("9:abcdefghijkl", 12, 9);
        needsOf("(a|b)&(c|d)", 4, 2);
        needsOf("a&b&c|d&e", 5, 2);
        needsOf("(a|b&c)&(b|c)", 3, 2);
        needsOf("2:abc&2:bcd", 4, 2);
        needsOf("2:ab&2:cd&#3", 4, 4);
        needsOf("#6|a&b&#5|*", 6, 0);
        StableParty x = Checks.partyOf(3);
        x.invite(1, false);
        x.invite(2, false);
        Checks.condition(x, 0, "b&#3");
        checks.due("needs, invited or not", x.needs(0), 3);
        checks.due("needs of one who is not invited", x.needs(1), 0);
        checks.due("needs(3)", x.needs(3), UNKNOWN);
        checks.due("needs(-1)", x.needs(-1), UNKNOWN);
    }

    /** Promise 26. */
    private static void weightOf() {
        StableParty x = Checks.partyOf(5);
        checks.due("only this one", x.weightOf(2), 1);
        Checks.condition(x, 1, "a");
        Checks.condition(x, 2, "b");
        Checks.condition(x, 3, "a|b&c");
        checks.due("four", x.weightOf(0), 4);
        checks.due("two", x.weightOf(1), 2);
        checks.due("one", x.weightOf(3), 1);
        checks.due("the others are as they were", x.company(0), 31);
        x.setLimit(4, 2500);
        checks.due("the fee counts", x.weightOf(3), 2);
        Checks.condition(x, 4, "#6");
        checks.due("one who stays away", x.weightOf(4), 0);
        x.invite(4, false);
        checks.due("not invited", x.weightOf(4), NONE);
        checks.due("weightOf(5)", x.weightOf(5), UNKNOWN);
        checks.due("weightOf(-1)", x.weightOf(-1), UNKNOWN);
        checks.due("it is still not invited", x.guest(4, 2), 0);
        checks.due("but another one is", x.guest(0, 2), 1);
        x.fix();
        checks.due("also when fixed", x.weightOf(0), 4);
    }

    /** Promise 27. */
    private static void leastLimit() {
        StableParty x = Checks.partyOf(3);
        checks.due("the fee of three", x.leastLimit(0), 3834);
        x.setLimit(0, 5);
        checks.due("also of a smaller limit", x.leastLimit(0), 3834);
        checks.due("the limit stays", x.guest(0, 0), 5);
        x.setLimit(1, 3833);
        checks.due("one fewer", x.leastLimit(0), 5500);
        checks.due("the other way", x.leastLimit(1), 5500);
        Checks.condition(x, 0, "b");
        checks.due("the condition cannot be met", x.leastLimit(0), NONE);
        x.setLimit(1, 3834);
        checks.due("it can be", x.leastLimit(0), 3834);
        x.invite(0, false);
        checks.due("not invited", x.leastLimit(0), NONE);
        checks.due("leastLimit(3)", x.leastLimit(3), UNKNOWN);
        checks.due("leastLimit(-1)", x.leastLimit(-1), UNKNOWN);

        StableParty y = Checks.partyOf(1);
        y.set(0, 99999);
        y.set(1, 1);
        checks.due("no limit is enough", y.leastLimit(0), NONE);
        y.set(1, 0);
        checks.due("the greatest limit is", y.leastLimit(0), 99999);
        y.set(0, 0);
        checks.due("nothing to pay", y.leastLimit(0), 0);
        y.fix();
        checks.due("also when fixed", y.leastLimit(0), 0);
    }

    /** Promise 28. */
    private static void seat() {
        StableParty x = Checks.partyOf(12);
        checks.due("nobody sits", x.seat(0), NONE);
        x.invite(0, false);
        x.invite(5, false);
        x.fix();
        int[] due = {1, 2, 3, 4, 6, 7, 8, 9, 10, 11, NONE, NONE};
        for (int seat = 0; seat < 12; seat++) {
            checks.due("seat(" + seat + ")", x.seat(seat), due[seat]);
        }
        checks.due("seat(12)", x.seat(12), UNKNOWN);
        checks.due("seat(-1)", x.seat(-1), UNKNOWN);
        checks.due("seat(-5)", x.seat(-5), UNKNOWN);
        x.cancel(6);
        checks.due("empty then", x.seat(4), NONE);
        checks.due("the next one stays", x.seat(5), 7);
    }

    /** Promise 29. */
    private static void count() {
        StableParty x = Checks.partyOf(5);
        Checks.condition(x, 1, "a");
        x.invite(4, false);
        x.set(0, 7001);
        x.set(1, 77);
        x.set(2, 11);
        x.set(3, 2);
        x.set(4, 33);
        x.pass(3);
        x.setLimit(0, 8888);
        x.invite(4, true);
        x.invite(4, false);
        x.fix();
        x.cancel(0);
        x.undo();
        x.cancel(0);
        int paid = 4 * (1751 + 77) + 33;
        int[] due = {3, 5, 4, 7001, 77, 11, 2, 33, 1, paid, 914, 1, 1, 1, 66, 4, 1};
        for (int what = 0; what < due.length; what++) {
            checks.due("count(" + what + ")", x.count(what), due[what]);
        }
        checks.due("count(-1)", x.count(-1), BAD_VALUE);
        checks.due("count(17)", x.count(17), BAD_VALUE);
        checks.due("count of an extreme value", x.count(EXTREME), BAD_VALUE);
        x.dissolve();
        checks.due("count(8) then", x.count(8), 0);
        checks.due("count(9) then", x.count(9), paid);
        checks.due("count(11) then", x.count(11), 1);
        x.fix();
        checks.due("count(11) after another one", x.count(11), 2);
        checks.due("count(9) after another one", x.count(9), paid + 4 * 1828);
    }
}
