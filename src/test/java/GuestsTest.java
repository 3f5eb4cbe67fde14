/** Promises 2 to 7: guests, conditions, limits, weights, invitations and settings. */
public final class GuestsTest {
    private static final int UNKNOWN = StableParty.UNKNOWN;
    private static final int BAD_VALUE = StableParty.BAD_VALUE;
    private static final int FULL = StableParty.FULL;
    private static final int NOT_POSSIBLE = StableParty.NOT_POSSIBLE;
    private static final int NONE = StableParty.NONE;
    private static final Checks checks = new Checks("GuestsTest");

    public static void main(String[] args) {
        addGuest();
        addGuestErrors();
        conditionIsGiven();
        conditionErrors();
        faults();
        setLimit();
        setWeight();
        invite();
        lateChanges();
        set();
        setErrors();
        nothingWhileFixed();
        checks.finish();
    }

    /** Promise 2. */
    private static void addGuest() {
        StableParty x = new StableParty();
        checks.due("addGuest(0, 1)", x.addGuest(0, 1), 0);
        checks.due("addGuest(99999, 9)", x.addGuest(99999, 9), 1);
        int[] due = {99999, 9, 1, 0, 0, 0, 0, NONE};
        for (int what = 0; what < due.length; what++) {
            checks.due("guest(1, " + what + ") when added", x.guest(1, what), due[what]);
        }
        checks.due("limit of the first", x.guest(0, 0), 0);
        checks.due("weight of the first", x.guest(0, 1), 1);
        checks.due("met(1, 0): the condition is *", x.met(1, 0), 1);
        checks.due("addGuest is an act", x.count(15), 2);
        x.pass(60);
        x.addGuest(5, 5);
        checks.due("adding late charges nothing", x.guest(2, 3), 0);
    }

    private static void addGuestErrors() {
        StableParty x = Checks.partyOf(11);
        checks.due("addGuest(-1, 1)", x.addGuest(-1, 1), BAD_VALUE);
        checks.due("addGuest(100000, 1)", x.addGuest(100000, 1), BAD_VALUE);
        checks.due("addGuest(0, 0)", x.addGuest(0, 0), BAD_VALUE);
        checks.due("addGuest(0, 10)", x.addGuest(0, 10), BAD_VALUE);
        checks.due("errors add nobody", x.count(1), 11);
        checks.due("the guest 11", x.addGuest(1, 1), 11);
        checks.due("a guest too many", x.addGuest(1, 1), FULL);
        checks.due("still 12", x.count(1), 12);
        checks.due("a bad value goes before a full house", x.addGuest(1, 0), BAD_VALUE);
        x.fix();
        checks.due("a fixed company goes before a full house", x.addGuest(1, 1), NOT_POSSIBLE);
        checks.due("a bad value goes before a fixed company", x.addGuest(-1, 1), BAD_VALUE);
    }

    /** Promise 3. */
    private static void conditionIsGiven() {
        StableParty x = Checks.partyOf(12);
        checks.due("setCondition of *", Checks.condition(x, 0, "*"), 0);
        checks.due("setCondition of #12", Checks.condition(x, 0, "#12"), 0);
        checks.due("setCondition of a letter", Checks.condition(x, 0, "l"), 1);
        checks.due("its letters", x.guest(0, 4), 2048);
        checks.due("different letters count once", Checks.condition(x, 0, "a&(b|2:bbcl)&c|a"), 4);
        checks.due("the letters as bits", x.guest(0, 4), 1 + 2 + 4 + 2048);
        checks.due("another guest's condition stays", x.guest(1, 4), 0);
        checks.due("the text stays", x.count(16), 16);
        int states = x.count(15);
        checks.due("undo takes the condition back", x.undo(), states - 1);
        checks.due("the letter of before", x.guest(0, 4), 2048);
        checks.due("the text stays again", x.count(16), 16);
        checks.due("a guest's own letter", Checks.condition(x, 3, "d"), 1);
        x.invite(1, false);
        checks.due("a letter of one who is not invited", Checks.condition(x, 3, "b"), 1);
        StableParty y = Checks.partyOf(1);
        Checks.condition(y, 0, "a");
        checks.due("the same condition is an act", y.setCondition(0), 1);
        checks.due("so three states are recorded", y.count(15), 3);
    }

    private static void conditionErrors() {
        StableParty x = Checks.partyOf(3);
        Checks.write(x, "b&a");
        x.setCondition(0);
        int states = x.count(15);
        checks.due("setCondition(-1)", x.setCondition(-1), UNKNOWN);
        checks.due("setCondition(3)", x.setCondition(3), UNKNOWN);
        checks.due("setCondition(12)", x.setCondition(12), UNKNOWN);
        checks.due("no guest goes before a fault", Checks.condition(x, 3, "b&"), UNKNOWN);
        checks.due("a fault", Checks.condition(x, 0, "b&"), -102);
        checks.due("a letter of no guest", Checks.condition(x, 0, "a|d"), BAD_VALUE);
        checks.due("a letter of no guest in a group", Checks.condition(x, 0, "1:ad"), BAD_VALUE);
        checks.due("a fault goes before a letter of no guest", Checks.condition(x, 0, "d&l&"), -104);
        checks.due("errors change nothing", x.guest(0, 4), 3);
        checks.due("errors record nothing", x.count(15), states);
        x.fix();
        checks.due("fixed", Checks.condition(x, 0, "a"), NOT_POSSIBLE);
        checks.due("a letter of no guest goes before fixed", Checks.condition(x, 0, "d"), BAD_VALUE);
        checks.due("a fault goes before fixed", Checks.condition(x, 0, "d("), -101);
        checks.due("no guest goes before fixed", x.setCondition(7), UNKNOWN);
    }

    private static void fault(String text, int due) {
        StableParty x = Checks.partyOf(12);
        checks.due("fault of \"" + text + "\"", Checks.condition(x, 0, text), -100 - due);
        checks.due("a fault records nothing", x.count(15), 4);
    }

    private static void whole(String text, int due) {
        StableParty x = Checks.partyOf(12);
        checks.due("letters of \"" + text + "\"", Checks.condition(x, 11, text), due);
    }

    private static void faults() {
        fault("", 0);
        fault("&", 0);
        fault("|a", 0);
        fault(")", 0);
        fault("m", 0);
        fault("A", 0);
        fault(" a", 0);
        fault("a ", 1);
        fault("ab", 1);
        fault("a*", 1);
        fault("**", 1);
        fault("a&", 2);
        fault("a|", 2);
        fault("a&&b", 2);
        fault("a|&b", 2);
        fault("a||b", 2);
        fault("a)", 1);
        fault("a&b)", 3);
        fault("(", 1);
        fault("()", 1);
        fault("(a", 2);
        fault("(a|b", 4);
        fault("(a)(b)", 3);
        fault("(a)b", 3);
        fault("a(b)", 1);
        fault("((a)", 4);
        fault("(a))", 3);
        fault("#", 1);
        fault("#0", 1);
        fault("#01", 1);
        fault("#a", 1);
        fault("#13", 2);
        fault("#19", 2);
        fault("#20", 2);
        fault("#120", 3);
        fault("#100", 3);
        fault("#9a", 2);
        fault("#1:a", 2);
        fault("#12(", 3);
        fault("0:a", 0);
        fault("1", 1);
        fault("1a", 1);
        fault("12:a", 1);
        fault("3:", 2);
        fault("3:1", 2);
        fault("3:*", 2);
        fault("3:(a)", 2);
        fault("3:m", 2);
        fault("3::a", 2);
        fault("3:a:b", 3);
        fault("3:ab#2", 4);
        fault("3:ab1:c", 4);
        fault("3:abm", 4);
        fault("3:ab*", 4);
        fault("3:ab&", 5);
        fault("(2:ab", 5);
        fault("(#1", 3);
        fault("(*", 2);
        fault("((((((((a", 9);
        fault("((((((((", 8);
        fault("(((((((((a", 8);
        fault("((((((((a)&((", 12);
        fault("" + (char) 300, 0);
        fault("a" + (char) 0, 1);
        fault("a&" + (char) 65535, 2);
        fault("(((((((a&b|c&d)&e|f)&g|h)&i|j)&k|l)&a|b)&c|d)&e|f)&g|h)&i|j", 49);
        whole("((((((((a))))))))", 1);
        whole("((((((((a)&(b)))))))|(((c))))", 3);
        whole("(((((((a&b|c&d)&e|f)&g|h)&i|j)&k|l)&a|b)&c|d)", 12);
        whole("#1", 0);
        whole("#9", 0);
        whole("#10", 0);
        whole("#11&#12|#1|(#1)", 0);
        whole("9:abc", 3);
        whole("1:a&2:bb|3:cdeabc", 5);
        whole("*|*&*", 0);
        whole("a&b&c&d&e&f&g&h&i&j&k&l&a&b&c&d&e&f&g&h&i&j&k&l&a&b&c&d&e&f", 12);
        whole("a|b|c|d|e|f|g|h|i|j|k|l|a|b|c|d|e|f|g|h|i|j|k|l|a|b|c|d|e|#1", 12);
    }

    /** Promise 4. */
    private static void setLimit() {
        StableParty x = new StableParty();
        x.addGuest(700, 1);
        x.addGuest(800, 1);
        checks.due("setLimit answers the previous one", x.setLimit(1, 99999), 800);
        checks.due("it is so then", x.guest(1, 0), 99999);
        checks.due("the other one's stays", x.guest(0, 0), 700);
        checks.due("it is an act", x.count(15), 3);
        checks.due("setLimit to 0", x.setLimit(1, 0), 99999);
        checks.due("setLimit from 0", x.setLimit(1, 6), 0);
        checks.due("it is so already", x.setLimit(1, 6), NONE);
        checks.due("an early change is not charged", x.guest(1, 3), 0);
        checks.due("undo", x.undo(), 3);
        checks.due("the limit of before", x.guest(1, 0), 0);
        checks.due("setLimit(2, 5)", x.setLimit(2, 5), UNKNOWN);
        checks.due("setLimit(-1, 5)", x.setLimit(-1, 5), UNKNOWN);
        checks.due("setLimit(0, -1)", x.setLimit(0, -1), BAD_VALUE);
        checks.due("setLimit(0, 100000)", x.setLimit(0, 100000), BAD_VALUE);
        checks.due("no guest goes before a bad value", x.setLimit(2, -1), UNKNOWN);
    }

    /** Promise 5. */
    private static void setWeight() {
        StableParty x = new StableParty();
        x.addGuest(700, 4);
        x.addGuest(800, 5);
        checks.due("setWeight answers the previous one", x.setWeight(1, 9), 5);
        checks.due("it is so then", x.guest(1, 1), 9);
        checks.due("the other one's stays", x.guest(0, 1), 4);
        checks.due("it is an act", x.count(15), 3);
        checks.due("setWeight to 1", x.setWeight(1, 1), 9);
        checks.due("it is so already", x.setWeight(1, 1), NONE);
        checks.due("NONE records nothing", x.count(15), 4);
        checks.due("setWeight(2, 5)", x.setWeight(2, 5), UNKNOWN);
        checks.due("setWeight(-1, 5)", x.setWeight(-1, 5), UNKNOWN);
        checks.due("setWeight(0, 0)", x.setWeight(0, 0), BAD_VALUE);
        checks.due("setWeight(0, 10)", x.setWeight(0, 10), BAD_VALUE);
        checks.due("no guest goes before a bad value", x.setWeight(2, 0), UNKNOWN);
        x.pass(11);
        x.setWeight(0, 7);
        checks.due("a late weight is not charged", x.guest(0, 3), 0);
    }

    /** Promise 6. */
    private static void invite() {
        StableParty x = Checks.partyOf(3);
        checks.due("all are invited", x.invite(0, true), NONE);
        checks.due("taken back", x.invite(0, false), 2);
        checks.due("taken back already", x.invite(0, false), NONE);
        checks.due("not invited", x.guest(0, 2), 0);
        checks.due("another one is", x.guest(1, 2), 1);
        checks.due("another one taken back", x.invite(2, false), 1);
        checks.due("count of the invited", x.count(2), 1);
        checks.due("the last one", x.invite(1, false), 0);
        checks.due("invited again", x.invite(0, true), 1);
        checks.due("it is an act", x.undo(), 3);
        checks.due("undone", x.count(2), 0);
        checks.due("an early invitation is not charged", x.count(14), 0);
        checks.due("invite(3, true)", x.invite(3, true), UNKNOWN);
        checks.due("invite(-1, false)", x.invite(-1, false), UNKNOWN);
    }

    /** DAYS AND CHANGES, for the promises 3, 4 and 6. */
    private static void lateChanges() {
        StableParty x = Checks.partyOf(3);
        x.pass(10);
        x.setLimit(0, 20000);
        checks.due("on the day of the closing", x.guest(0, 3), 0);
        x.pass(1);
        x.setLimit(0, 20000);
        checks.due("no change, no charge", x.guest(0, 3), 0);
        x.setLimit(0, 20001);
        checks.due("a late limit", x.guest(0, 3), 200);
        x.invite(1, false);
        x.invite(1, true);
        checks.due("late invitations, either way", x.guest(1, 3), 400);
        Checks.condition(x, 2, "a");
        checks.due("a late condition", x.guest(2, 3), 200);
        x.setCondition(2);
        checks.due("the same condition, late", x.guest(2, 3), 400);
        Checks.condition(x, 2, "a&");
        checks.due("a fault charges nothing", x.guest(2, 3), 400);
        checks.due("all charges", x.count(14), 1000);
        x.set(4, 9999);
        checks.due("charges that were made stay", x.count(14), 1000);
        x.setLimit(0, 1);
        checks.due("another late charge", x.guest(0, 3), 10199);
        x.undo();
        checks.due("undo takes the charge back", x.guest(0, 3), 200);
        x.set(3, 11);
        x.setLimit(0, 1);
        checks.due("a later closing", x.guest(0, 3), 200);
        x.set(3, 0);
        x.set(4, 0);
        x.setLimit(0, 2);
        checks.due("a late charge of 0", x.guest(0, 3), 200);
    }

    /** Promise 7. */
    private static void set() {
        int[] least = {0, 0, 1, 0, 0};
        int[] most = {99999, 9999, 12, 999, 9999};
        int[] first = {10000, 500, 12, 10, 200};
        for (int what = 0; what < 5; what++) {
            StableParty x = new StableParty();
            String call = "set(" + what + ", ..) ";
            checks.due(call + "as it is", x.set(what, first[what]), NONE);
            checks.due(call + "too little", x.set(what, least[what] - 1), BAD_VALUE);
            checks.due(call + "too much", x.set(what, most[what] + 1), BAD_VALUE);
            checks.due(call + "nothing is recorded", x.count(15), 0);
            checks.due(call + "the least", x.set(what, least[what]), first[what]);
            checks.due(call + "is told", x.count(3 + what), least[what]);
            checks.due(call + "the most", x.set(what, most[what]), least[what]);
            checks.due(call + "is told again", x.count(3 + what), most[what]);
            checks.due(call + "is an act", x.undo(), 1);
            checks.due(call + "undone", x.count(3 + what), least[what]);
            for (int other = 0; other < 5; other++) {
                int due = other == what ? least[what] : first[other];
                checks.due(call + "and the number " + other, x.count(3 + other), due);
            }
        }
    }

    private static void setErrors() {
        StableParty x = Checks.partyOf(1);
        checks.due("set(-1, 1)", x.set(-1, 1), BAD_VALUE);
        checks.due("set(5, 1)", x.set(5, 1), BAD_VALUE);
        checks.due("set of a great what", x.set(Integer.MAX_VALUE, 1), BAD_VALUE);
        x.fix();
        checks.due("set(0, 7) when fixed", x.set(0, 7), NOT_POSSIBLE);
        checks.due("a bad what goes before fixed", x.set(5, 7), BAD_VALUE);
        checks.due("a bad value goes before fixed", x.set(2, 0), BAD_VALUE);
        checks.due("fixed goes before NONE", x.set(2, 12), NOT_POSSIBLE);
    }

    private static void nothingWhileFixed() {
        StableParty x = Checks.partyOf(2);
        x.fix();
        int states = x.count(15);
        checks.due("addGuest", x.addGuest(1, 1), NOT_POSSIBLE);
        checks.due("setCondition", Checks.condition(x, 0, "*"), NOT_POSSIBLE);
        checks.due("setLimit", x.setLimit(0, 1), NOT_POSSIBLE);
        checks.due("setLimit as it is", x.setLimit(0, 99999), NOT_POSSIBLE);
        checks.due("setLimit of nobody", x.setLimit(2, 1), UNKNOWN);
        checks.due("setLimit, bad", x.setLimit(0, -1), BAD_VALUE);
        checks.due("setWeight", x.setWeight(0, 2), NOT_POSSIBLE);
        checks.due("setWeight as it is", x.setWeight(0, 1), NOT_POSSIBLE);
        checks.due("setWeight of nobody", x.setWeight(2, 2), UNKNOWN);
        checks.due("setWeight, bad", x.setWeight(0, 10), BAD_VALUE);
        checks.due("invite", x.invite(0, false), NOT_POSSIBLE);
        checks.due("invite as it is", x.invite(0, true), NOT_POSSIBLE);
        checks.due("invite nobody", x.invite(2, true), UNKNOWN);
        checks.due("nothing is recorded", x.count(15), states);
        x.dissolve();
        checks.due("then all can be changed: addGuest", x.addGuest(1, 1), 2);
        checks.due("then all can be changed: setCondition", Checks.condition(x, 0, "a"), 1);
        checks.due("then all can be changed: setLimit", x.setLimit(0, 1), 99999);
        checks.due("then all can be changed: setWeight", x.setWeight(0, 2), 1);
        checks.due("then all can be changed: invite", x.invite(0, false), 2);
        checks.due("then all can be changed: set", x.set(0, 2), 10000);
    }
}
