import java.io.IOException;

/** The boundary cases of the promises 1 to 13, sentence by sentence. */
public final class EdgesOfActsTest {
    private static final int UNKNOWN = StableParty.UNKNOWN;
    private static final int BAD_VALUE = StableParty.BAD_VALUE;
    private static final int FULL = StableParty.FULL;
    private static final int NOT_POSSIBLE = StableParty.NOT_POSSIBLE;
    private static final int NONE = StableParty.NONE;

    private final Edges edges = new Edges("EdgesOfActsTest");

    private EdgesOfActsTest() throws IOException {
    }

    public static void main(String[] args) throws IOException {
        EdgesOfActsTest test = new EdgesOfActsTest();
        test.newObject();
        test.addGuest();
        test.setCondition();
        test.setLimit();
        test.setWeight();
        test.invite();
        test.set();
        test.pass();
        test.fix();
        test.cancel();
        test.dissolve();
        test.type();
        test.clearText();
        test.edges.finish();
    }

    private void newObject() {
        edges.sentence("Promise 1", "Creates a party without guests, on the day 0.");
        StableParty x = new StableParty();
        int[] due = {0, 0, 0, 10000, 500, 12, 10, 200, 0, 0, 0, 0, 0, 0, 0, 0, 0};
        for (int what = 0; what < due.length; what++) {
            edges.due("count(" + what + ")", x.count(what), due[what]);
        }
        for (int guest = -1; guest <= 12; guest++) {
            edges.due("the guest " + guest, x.guest(guest, 0), UNKNOWN);
        }
        edges.due("a set of one", x.stable(1), BAD_VALUE);
        edges.due("the empty set", x.stable(0), 1);
        edges.due("the smallest company", x.company(2), NONE);
        edges.due("the fixed company", x.company(3), NONE);
        edges.due("companies", x.companies(), 1);
        edges.due("rounds", x.rounds(), 1);
        for (int seat = 0; seat < 12; seat++) {
            edges.due("the seat " + seat, x.seat(seat), NONE);
        }
        new StableParty().addGuest(1, 1);
        edges.due("another object has its own guests", x.count(1), 0);
    }

    private void addGuest() {
        edges.sentence("Promise 2", "`limit`: 0 to 99999");
        edges.refusesBeyond("limit", 0, 99999, Edges::openWithRoom, (x, limit) -> x.addGuest(limit, 1), BAD_VALUE);
        edges.acts("the least limit", Edges::openWithRoom, x -> x.addGuest(0, 1), 3);
        edges.acts("the greatest limit", Edges::openWithRoom, x -> x.addGuest(99999, 1), 3);
        edges.sentence("Promise 2", "`weight`: 1 to 9");
        edges.refusesBeyond("weight", 1, 9, Edges::openWithRoom, (x, weight) -> x.addGuest(1, weight), BAD_VALUE);
        edges.due("no weight", new StableParty().addGuest(1, 0), BAD_VALUE);
        edges.acts("the least weight", Edges::openWithRoom, x -> x.addGuest(1, 1), 3);
        edges.acts("the greatest weight", Edges::openWithRoom, x -> x.addGuest(1, 9), 3);
        edges.leavesAll("far out of range, both", Edges::openWithRoom,
                x -> x.addGuest(Edges.LEAST_INT, Edges.GREATEST_INT), BAD_VALUE);
        edges.sentence("Promise 2", "Adds a guest, who is invited, with the condition \"*\".");
        StableParty x = Edges.open();
        x.addGuest(0, 9);
        int[] due = {0, 9, 1, 0, 0, 0, 0, NONE};
        for (int what = 0; what < due.length; what++) {
            edges.due("guest(3, " + what + ")", x.guest(3, what), due[what]);
        }
        edges.due("met by nobody", x.met(3, 0), 1);
        addGuestInAnotherPlace();
        edges.sentence("Promise 2",
                "Returns the number of the guest; BAD_VALUE; NOT_POSSIBLE if a company is fixed; FULL if there are 12.");
        edges.acts("the first one", StableParty::new, y -> y.addGuest(1, 1), 0);
        edges.acts("the last one", () -> Checks.partyOf(11), y -> y.addGuest(1, 1), 11);
        edges.leavesAll("one too many", Edges::full, y -> y.addGuest(1, 1), FULL);
        edges.leavesAll("also after an undo and another one", () -> {
            StableParty y = Edges.full();
            y.undo();
            y.addGuest(5, 5);
            return y;
        }, y -> y.addGuest(1, 1), FULL);
        edges.leavesAll("fixed", Edges::fixedParty, y -> y.addGuest(1, 1), NOT_POSSIBLE);
        edges.leavesAll("fixed and full", () -> Edges.fixed(Edges.full()), y -> y.addGuest(1, 1), NOT_POSSIBLE);
        edges.leavesAll("bad and full", Edges::full, y -> y.addGuest(-1, 1), BAD_VALUE);
        edges.leavesAll("bad and fixed", Edges::fixedParty, y -> y.addGuest(1, 0), BAD_VALUE);
    }

    /** A state with fewer guests is restored, and one is added with a number that another one had. */
    private void addGuestInAnotherPlace() {
        StableParty x = Checks.partyOf(1);
        x.keep();
        x.addGuest(99999, 5);
        Checks.condition(x, 1, "a&b");
        x.fix();
        x.cancel(0);
        x.dissolve();
        x.pass(11);
        x.setLimit(1, 7);
        x.invite(1, false);
        x.restore();
        edges.due("no guest 1", x.guest(1, 0), UNKNOWN);
        edges.due("the number again", x.addGuest(4, 3), 1);
        int[] due = {4, 3, 1, 0, 0, 0, 0, NONE};
        for (int what = 0; what < due.length; what++) {
            edges.due("a new guest: guest(1, " + what + ")", x.guest(1, what), due[what]);
        }
        edges.due("a new guest: met by nobody", x.met(1, 0), 1);
        edges.due("a new guest: needs", x.needs(1), 0);
        edges.due("nothing was paid", x.count(9), 0);
        edges.due("nothing was given back", x.count(10), 0);
        edges.due("nothing is charged", x.count(14), 0);
        x.undo();
        edges.due("undone", x.guest(1, 0), UNKNOWN);
        x.undo();
        edges.due("the one who was there before", x.guest(1, 0), 7);
        edges.due("with the condition", x.met(1, 2), 0);
    }

    private static StableParty withText(StableParty x, String text) {
        Checks.write(x, text);
        return x;
    }

    private void setCondition() {
        edges.sentence("Promise 3", "Gives a guest the condition in the text, which stays.");
        StableParty x = withText(Edges.full(), "a&l");
        edges.due("to the first one", x.setCondition(0), 2);
        edges.due("to the last one", x.setCondition(11), 2);
        edges.due("the text stays", x.count(16), 3);
        edges.due("the first one's", x.guest(0, 4), 2049);
        edges.due("the last one's", x.guest(11, 4), 2049);
        edges.due("nobody else's", x.guest(1, 4), 0);
        edges.sentence("Promise 3", "This is an act, also if it is the same condition.");
        edges.acts("the same one", () -> withText(Checks.partyOf(1), "*"), y -> y.setCondition(0), 0);
        edges.sentence("Promise 3", "Returns how many different letters stand in it");
        edges.due("none", Checks.condition(Edges.full(), 0, "*|#12&(#1)"), 0);
        edges.due("one", Checks.condition(Edges.full(), 0, "l"), 1);
        edges.due("one that stands twice", Checks.condition(Edges.full(), 0, "l|2:ll"), 1);
        edges.due("all twelve", Checks.condition(Edges.full(), 0, "9:abcdefghijkl"), 12);
        edges.due("all twelve, twice", Checks.condition(Edges.full(), 0, "9:abcdefghijkl|1:lkjihgfedcba"), 12);
        edges.sentence("Promise 3", "UNKNOWN (guest)");
        edges.refusesBeyond("guest", 0, 2, Edges::openWithRoom, StableParty::setCondition, UNKNOWN);
        edges.refusesBeyond("guest of twelve", 0, 11, () -> withText(Edges.full(), "a"), StableParty::setCondition,
                UNKNOWN);
        edges.due("no guest at all", withText(new StableParty(), "*").setCondition(0), UNKNOWN);
        conditionFaults();
        conditionLetters();
        edges.sentence("Promise 3", "NOT_POSSIBLE if a company is fixed");
        edges.leavesAll("fixed", Edges::fixedParty, y -> y.setCondition(0), NOT_POSSIBLE);
        edges.leavesAll("of one who is not in it", Edges::fixedParty, y -> y.setCondition(2), NOT_POSSIBLE);
        edges.leavesAll("a letter of no guest", () -> withText(Edges.fixedParty(), "d"), y -> y.setCondition(0),
                BAD_VALUE);
        edges.leavesAll("a fault", () -> withText(Edges.fixedParty(), "d("), y -> y.setCondition(0), -101);
        edges.leavesAll("no guest", () -> withText(Edges.fixedParty(), "d("), y -> y.setCondition(3), UNKNOWN);
    }

    private void conditionFaults() {
        edges.sentence("Promise 3", "-100 minus the fault of the text if it has one (which is an error)");
        edges.leavesAll("the least fault", () -> withText(Edges.open(), "?"), x -> x.setCondition(0), -100);
        edges.leavesAll("the empty text", () -> withText(Edges.open(), ""), x -> x.setCondition(0), -100);
        edges.leavesAll("the fault of the last character",
                () -> withText(Edges.open(), Edges.repeated("a&", 58) + "a?"), x -> x.setCondition(0), -159);
        edges.leavesAll("the greatest fault", () -> withText(Edges.open(), Edges.repeated("a&", 60)),
                x -> x.setCondition(0), -160);
        edges.leavesAll("also with a letter of no guest", () -> withText(Edges.open(), "l&"),
                x -> x.setCondition(0), -102);
        edges.leavesAll("a condition, and one character more", () -> withText(Edges.open(), "a&b)"),
                x -> x.setCondition(0), -103);
    }

    private void conditionLetters() {
        edges.sentence("Promise 3", "BAD_VALUE if a letter in it is of no guest");
        edges.leavesAll("the next letter", () -> withText(Edges.open(), "d"), x -> x.setCondition(0), BAD_VALUE);
        edges.leavesAll("the last letter", () -> withText(Checks.partyOf(11), "l"), x -> x.setCondition(0), BAD_VALUE);
        edges.leavesAll("the second letter", () -> withText(Checks.partyOf(1), "a|b"), x -> x.setCondition(0),
                BAD_VALUE);
        edges.leavesAll("in a group", () -> withText(Edges.open(), "1:abd"), x -> x.setCondition(0), BAD_VALUE);
        edges.leavesAll("in brackets", () -> withText(Edges.open(), "a|(b&(e))"), x -> x.setCondition(0), BAD_VALUE);
        edges.due("the last guest's letter", Checks.condition(Edges.open(), 0, "c"), 1);
        edges.due("with twelve guests", Checks.condition(Edges.full(), 0, "l"), 1);
        edges.due("a great number is no letter", Checks.condition(Edges.open(), 0, "#12|9:a"), 1);
        edges.due("the letter of one who is not invited", Checks.condition(Edges.openWithRoom(), 0, "b"), 1);
    }

    private void setLimit() {
        edges.sentence("Promise 4", "`guest`: a guest");
        edges.refusesBeyond("guest", 0, 2, Edges::openWithRoom, (x, guest) -> x.setLimit(guest, 5), UNKNOWN);
        edges.due("no guest at all", new StableParty().setLimit(0, 5), UNKNOWN);
        edges.acts("the first one", Edges::openWithRoom, x -> x.setLimit(0, 5), 99999);
        edges.acts("the last one", Edges::openWithRoom, x -> x.setLimit(2, 5), 8000);
        edges.sentence("Promise 4", "`limit`: 0 to 99999");
        edges.refusesBeyond("limit", 0, 99999, Edges::openWithRoom, (x, limit) -> x.setLimit(2, limit), BAD_VALUE);
        edges.acts("the least", Edges::openWithRoom, x -> x.setLimit(2, 0), 8000);
        edges.acts("the greatest", Edges::openWithRoom, x -> x.setLimit(2, 99999), 8000);
        StableParty x = Edges.open();
        x.setLimit(2, 0);
        edges.due("is told", x.guest(2, 0), 0);
        edges.due("from the least to the greatest", x.setLimit(2, 99999), 0);
        edges.due("is told", x.guest(2, 0), 99999);
        edges.due("from the greatest", x.setLimit(2, 1), 99999);
        edges.sentence("Promise 4",
                "Returns the previous one; UNKNOWN; BAD_VALUE; NOT_POSSIBLE if a company is fixed; NONE if it is so already.");
        edges.leavesAll("so already", Edges::openWithRoom, y -> y.setLimit(2, 8000), NONE);
        edges.leavesAll("fixed", Edges::fixedParty, y -> y.setLimit(2, 8001), NOT_POSSIBLE);
        edges.leavesAll("fixed and so already", Edges::fixedParty, y -> y.setLimit(2, 8000), NOT_POSSIBLE);
        edges.leavesAll("bad and fixed", Edges::fixedParty, y -> y.setLimit(2, -1), BAD_VALUE);
        edges.leavesAll("nobody and bad", Edges::open, y -> y.setLimit(3, -1), UNKNOWN);
        edges.leavesAll("far out of range, both", Edges::open,
                y -> y.setLimit(Edges.GREATEST_INT, Edges.LEAST_INT), UNKNOWN);
        edges.leavesAll("nobody and fixed", Edges::fixedParty, y -> y.setLimit(3, 1), UNKNOWN);
    }

    private void setWeight() {
        edges.sentence("Promise 5", "`guest`: a guest");
        edges.refusesBeyond("guest", 0, 2, Edges::openWithRoom, (x, guest) -> x.setWeight(guest, 5), UNKNOWN);
        edges.due("no guest at all", new StableParty().setWeight(0, 5), UNKNOWN);
        edges.acts("the first one", Edges::openWithRoom, x -> x.setWeight(0, 5), 1);
        edges.acts("the last one", Edges::openWithRoom, x -> x.setWeight(2, 5), 4);
        edges.sentence("Promise 5", "`weight`: 1 to 9");
        edges.refusesBeyond("weight", 1, 9, Edges::openWithRoom, (x, weight) -> x.setWeight(2, weight), BAD_VALUE);
        edges.leavesAll("no weight", Edges::openWithRoom, x -> x.setWeight(2, 0), BAD_VALUE);
        edges.acts("the least", Edges::openWithRoom, x -> x.setWeight(2, 1), 4);
        edges.acts("the greatest", Edges::openWithRoom, x -> x.setWeight(2, 9), 4);
        StableParty x = Edges.open();
        x.setWeight(2, 9);
        edges.due("is told", x.guest(2, 1), 9);
        edges.due("from the greatest to the least", x.setWeight(2, 1), 9);
        edges.due("is told", x.guest(2, 1), 1);
        edges.due("from the least", x.setWeight(2, 9), 1);
        edges.sentence("Promise 5",
                "Returns the previous one; UNKNOWN; BAD_VALUE; NOT_POSSIBLE if a company is fixed; NONE if it is so already.");
        edges.leavesAll("so already", Edges::openWithRoom, y -> y.setWeight(2, 4), NONE);
        edges.leavesAll("fixed", Edges::fixedParty, y -> y.setWeight(2, 5), NOT_POSSIBLE);
        edges.leavesAll("fixed and so already", Edges::fixedParty, y -> y.setWeight(2, 4), NOT_POSSIBLE);
        edges.leavesAll("bad and fixed", Edges::fixedParty, y -> y.setWeight(2, 10), BAD_VALUE);
        edges.leavesAll("nobody and bad", Edges::open, y -> y.setWeight(3, 0), UNKNOWN);
        edges.leavesAll("far out of range, both", Edges::open,
                y -> y.setWeight(Edges.LEAST_INT, Edges.GREATEST_INT), UNKNOWN);
        edges.leavesAll("nobody and fixed", Edges::fixedParty, y -> y.setWeight(3, 5), UNKNOWN);
    }

    private void invite() {
        edges.sentence("Promise 6", "`guest`: a guest");
        edges.refusesBeyond("guest", 0, 2, Edges::openWithRoom, (x, guest) -> x.invite(guest, true), UNKNOWN);
        edges.refusesBeyond("guest, back", 0, 2, Edges::openWithRoom, (x, guest) -> x.invite(guest, false), UNKNOWN);
        edges.due("no guest at all", new StableParty().invite(0, true), UNKNOWN);
        edges.sentence("Promise 6", "Returns how many guests are invited then; UNKNOWN; NOT_POSSIBLE if a company is "
                + "fixed; NONE if it is so already.");
        StableParty x = Edges.full();
        for (int guest = 11; guest >= 0; guest--) {
            edges.due("taken back", x.invite(guest, false), guest);
        }
        edges.due("of nobody", x.count(2), 0);
        for (int guest = 11; guest >= 0; guest--) {
            edges.due("invited again", x.invite(guest, true), 12 - guest);
        }
        edges.acts("taken back", Edges::openWithRoom, y -> y.invite(2, false), 1);
        edges.acts("given", Edges::openWithRoom, y -> y.invite(1, true), 3);
        edges.leavesAll("invited already", Edges::openWithRoom, y -> y.invite(0, true), NONE);
        edges.leavesAll("not invited already", Edges::openWithRoom, y -> y.invite(1, false), NONE);
        edges.leavesAll("fixed", Edges::fixedParty, y -> y.invite(0, false), NOT_POSSIBLE);
        edges.leavesAll("fixed and so already", Edges::fixedParty, y -> y.invite(0, true), NOT_POSSIBLE);
        edges.leavesAll("nobody and fixed", Edges::fixedParty, y -> y.invite(3, true), UNKNOWN);
    }

    private void set() {
        String[] words = {"0 for the hall (0 to 99999)", "1 for the head (0 to 9999)", "2 for the places (1 to 12)",
            "3 for the closing (0 to 999)", "4 for the late charge (0 to 9999)"};
        int[] least = {0, 0, 1, 0, 0};
        int[] most = {99999, 9999, 12, 999, 9999};
        int[] first = {10000, 500, 12, 10, 200};
        for (int what = 0; what < 5; what++) {
            int setting = what;
            int atLeast = least[what];
            int atMost = most[what];
            edges.sentence("Promise 7", words[what]);
            edges.refusesBeyond("value", atLeast, atMost, Edges::openWithRoom, (x, value) -> x.set(setting, value),
                    BAD_VALUE);
            StableParty x = new StableParty();
            edges.leavesAll("so already", Edges::openWithRoom, y -> y.set(setting, first[setting]), NONE);
            edges.due("the least", x.set(what, atLeast), first[what]);
            edges.due("is told", x.count(3 + what), atLeast);
            edges.due("the least already", x.set(what, atLeast), NONE);
            edges.due("the greatest", x.set(what, atMost), atLeast);
            edges.due("is told", x.count(3 + what), atMost);
            edges.due("the greatest already", x.set(what, atMost), NONE);
            edges.due("only this one", x.count(3 + (what + 1) % 5), first[(what + 1) % 5]);
            edges.acts("an act", Edges::openWithRoom, y -> y.set(setting, atLeast), first[what]);
            edges.leavesAll("fixed", Edges::fixedParty, y -> y.set(setting, atLeast), NOT_POSSIBLE);
            edges.leavesAll("fixed and so already", Edges::fixedParty, y -> y.set(setting, first[setting]),
                    NOT_POSSIBLE);
            edges.leavesAll("bad and fixed", Edges::fixedParty, y -> y.set(setting, atMost + 1), BAD_VALUE);
        }
        edges.sentence("Promise 7",
                "Returns the previous one; BAD_VALUE; NOT_POSSIBLE if a company is fixed; NONE if it is so already.");
        edges.due("the first one", new StableParty().set(3, 999), 10);
        edges.due("a value that is so already, of a bad what", new StableParty().set(5, 0), BAD_VALUE);
        edges.leavesAll("far out of range, both", Edges::openWithRoom,
                x -> x.set(Edges.LEAST_INT, Edges.GREATEST_INT), BAD_VALUE);
        edges.sentence("Promise 7", "`what`: 0 for the hall");
        edges.refusesBeyond("what", 0, 4, Edges::openWithRoom, (x, what) -> x.set(what, 5), BAD_VALUE);
        edges.leavesAll("a bad what and fixed", Edges::fixedParty, x -> x.set(-1, 1), BAD_VALUE);
        edges.leavesAll("another bad what and fixed", Edges::fixedParty, x -> x.set(5, 1), BAD_VALUE);
    }

    private static StableParty onDay(int day) {
        return Edges.onDay(day, Edges.party("*", "a"));
    }

    private static StableParty earlyWithRoom() {
        StableParty x = onDay(60);
        x.undo();
        x.undo();
        return x;
    }

    private void pass() {
        edges.sentence("Promise 8", "`days`: 1 to 60");
        edges.refusesBeyond("days", 1, 60, Edges::openWithRoom, StableParty::pass, BAD_VALUE);
        edges.leavesAll("no day", Edges::openWithRoom, x -> x.pass(0), BAD_VALUE);
        edges.acts("the least", EdgesOfActsTest::earlyWithRoom, x -> x.pass(1), 1);
        edges.acts("the greatest", EdgesOfActsTest::earlyWithRoom, x -> x.pass(60), 60);
        edges.sentence("Promise 8", "Returns the day then; BAD_VALUE");
        StableParty y = new StableParty();
        edges.due("the first day", y.pass(1), 1);
        edges.due("the day 61", y.pass(60), 61);
        edges.due("the day 62", y.pass(1), 62);
        edges.due("is told", y.count(0), 62);
        edges.sentence("Promise 8", "NOT_POSSIBLE if it would become more than 999");
        edges.due("just 999, by one day", onDay(998).pass(1), 999);
        edges.due("just 999, by 60 days", onDay(939).pass(60), 999);
        edges.leavesAll("1000, by one day", () -> onDay(999), x -> x.pass(1), NOT_POSSIBLE);
        edges.leavesAll("1000, by two days", () -> onDay(998), x -> x.pass(2), NOT_POSSIBLE);
        edges.leavesAll("1000, by 60 days", () -> onDay(940), x -> x.pass(60), NOT_POSSIBLE);
        edges.leavesAll("1059", () -> onDay(999), x -> x.pass(60), NOT_POSSIBLE);
        edges.leavesAll("too many days at the end", () -> onDay(999), x -> x.pass(61), BAD_VALUE);
        edges.leavesAll("a wrap-around of the day", () -> onDay(999), x -> x.pass(Edges.GREATEST_INT), BAD_VALUE);
        edges.leavesAll("a day back", () -> onDay(999), x -> x.pass(-1), BAD_VALUE);
        edges.due("also when fixed, up to 999", Edges.fixed(onDay(998)).pass(1), 999);
        edges.due("also when fixed, not more", Edges.fixed(onDay(999)).pass(1), NOT_POSSIBLE);
    }

    private void fix() {
        edges.sentence("Promise 9", "Returns what its guests pay in all; NOT_POSSIBLE if one is fixed; NONE if the "
                + "chosen company is empty.");
        edges.acts("one guest", () -> Checks.partyOf(1), StableParty::fix, 10500);
        edges.acts("twelve guests", Edges::full, StableParty::fix, 12 * 1334);
        edges.acts("guests who pay nothing", () -> {
            StableParty x = Checks.partyOf(1);
            x.set(0, 0);
            x.set(1, 0);
            return x;
        }, StableParty::fix, 0);
        edges.leavesAll("one is fixed", Edges::fixedParty, StableParty::fix, NOT_POSSIBLE);
        edges.leavesAll("one of which nobody is left", () -> {
            StableParty x = Edges.fixed(Checks.partyOf(1));
            x.cancel(0);
            return x;
        }, StableParty::fix, NOT_POSSIBLE);
        edges.leavesAll("no guest", StableParty::new, StableParty::fix, NONE);
        edges.leavesAll("no stable company", () -> Edges.party("2:a"), StableParty::fix, NONE);
        StableParty x = Checks.partyOf(1);
        for (int times = 1; times <= 9; times++) {
            edges.due("fixed again", x.fix(), 10500);
            edges.due("companies so far", x.count(11), times);
            edges.due("paid so far", x.count(9), times * 10500);
            edges.due("dissolved again", x.dissolve(), 1);
        }
    }

    private void cancel() {
        edges.sentence("Promise 10", "`guest`: a guest");
        edges.refusesBeyond("guest", 0, 2, Edges::fixedWithRoom, StableParty::cancel, UNKNOWN);
        edges.refusesBeyond("guest, none fixed", 0, 2, Edges::openWithRoom, StableParty::cancel, UNKNOWN);
        edges.refusesBeyond("guest of twelve", 0, 11, () -> Edges.fixed(Edges.full()), StableParty::cancel, UNKNOWN);
        edges.sentence("Promise 10", "Returns how many guests leave in all; UNKNOWN; NOT_POSSIBLE if none is fixed, "
                + "or the guest is not in it (any more).");
        edges.acts("the least", Edges::fixedWithRoom, x -> x.cancel(2), 1);
        edges.acts("the last guest of twelve", () -> Edges.fixed(Edges.full()), x -> x.cancel(11), 1);
        edges.acts("the greatest", () -> Edges.fixed(everyoneWantsAll()), x -> x.cancel(0), 12);
        edges.leavesAll("none is fixed", Edges::open, x -> x.cancel(0), NOT_POSSIBLE);
        edges.leavesAll("a new party", StableParty::new, x -> x.cancel(0), UNKNOWN);
        edges.leavesAll("not any more", Edges::fixedParty, x -> x.cancel(2), NOT_POSSIBLE);
        edges.leavesAll("one who left by another", () -> {
            StableParty x = Edges.fixed(Edges.party("*", "a", "*"));
            x.cancel(0);
            return x;
        }, x -> x.cancel(1), NOT_POSSIBLE);
        edges.leavesAll("never in it", () -> {
            StableParty x = Checks.partyOf(3);
            x.set(2, 2);
            return Edges.fixed(x);
        }, x -> x.cancel(2), NOT_POSSIBLE);
        edges.leavesAll("dissolved", () -> {
            StableParty x = Edges.fixedParty();
            x.dissolve();
            return x;
        }, x -> x.cancel(0), NOT_POSSIBLE);
    }

    private static StableParty everyoneWantsAll() {
        StableParty x = Edges.full();
        Checks.write(x, "#12");
        for (int guest = 0; guest < 12; guest++) {
            x.setCondition(guest);
        }
        return x;
    }

    private void dissolve() {
        edges.sentence("Promise 11", "Returns how many guests are in it; NOT_POSSIBLE if none is fixed.");
        edges.acts("three", Edges::fixedWithRoom, StableParty::dissolve, 3);
        edges.acts("two, as one has left", Edges::fixedParty, StableParty::dissolve, 2);
        edges.acts("twelve", () -> Edges.fixed(Edges.full()), StableParty::dissolve, 12);
        StableParty x = Edges.fixed(everyoneWantsAll());
        x.cancel(5);
        edges.due("nobody", x.dissolve(), 0);
        edges.due("none is fixed then", x.dissolve(), NOT_POSSIBLE);
        edges.leavesAll("none is fixed", Edges::openWithRoom, StableParty::dissolve, NOT_POSSIBLE);
        edges.leavesAll("a new party", StableParty::new, StableParty::dissolve, NOT_POSSIBLE);
    }

    private void type() {
        edges.sentence("Promise 12", "`character`: any character");
        StableParty x = Checks.partyOf(1);
        char[] characters = {0, 1, 9, 10, 31, 127, 128, 255, 256, 55296, 57343, 65534, 65535};
        for (int i = 0; i < characters.length; i++) {
            edges.due("the character " + (int) characters[i], x.type(characters[i]), i + 1);
        }
        edges.sentence("Promise 12", "Returns the length of the text then; FULL if it has 60 characters.");
        edges.due("the first", new StableParty().type('a'), 1);
        edges.due("the last", withText(Checks.partyOf(1), Edges.repeated("a", 59)).type('a'), 60);
        edges.leavesAll("one more", () -> withText(Checks.partyOf(1), Edges.repeated("a&", 60)), y -> y.type('a'), FULL);
        edges.leavesAll("one more, when fixed", () -> withText(Edges.fixedParty(), Edges.repeated("a&", 60)),
                y -> y.type('a'), FULL);
        edges.due("also when fixed", withText(Edges.fixedParty(), "").type('a'), 1);
    }

    private void clearText() {
        edges.sentence("Promise 13", "Returns the length that it had.");
        StableParty x = new StableParty();
        edges.due("an empty one", x.clearText(), 0);
        x.type('a');
        edges.due("the least", x.clearText(), 1);
        edges.due("it is empty then", x.clearText(), 0);
        for (int i = 0; i < 61; i++) {
            x.type('a');
        }
        edges.due("the greatest", x.clearText(), 60);
        edges.sentence("Promise 13", "Empties the text.");
        edges.due("the length", x.count(16), 0);
        edges.due("there is room again", x.type('a'), 1);
        StableParty y = withText(Checks.partyOf(2), "a&b&a&b");
        y.clearText();
        edges.due("no condition", y.setCondition(0), -100);
        y.type('b');
        edges.due("nothing of the old text comes back", y.setCondition(0), 1);
        edges.due("only the new letter", y.guest(0, 4), 2);
        edges.due("also when fixed", Edges.fixedParty().clearText(), 3);
    }
}
