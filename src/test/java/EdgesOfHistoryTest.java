import java.io.IOException;
import java.util.List;

/** The boundary cases of the terms HISTORY and ERRORS, and of the promises 14 to 16. */
public final class EdgesOfHistoryTest {
    private static final int UNKNOWN = StableParty.UNKNOWN;
    private static final int BAD_VALUE = StableParty.BAD_VALUE;
    private static final int FULL = StableParty.FULL;
    private static final int NOT_POSSIBLE = StableParty.NOT_POSSIBLE;
    private static final int NONE = StableParty.NONE;

    private final Edges edges = new Edges("EdgesOfHistoryTest");

    private EdgesOfHistoryTest() throws IOException {
    }

    public static void main(String[] args) throws IOException {
        EdgesOfHistoryTest test = new EdgesOfHistoryTest();
        test.history();
        test.snapshot();
        test.errors();
        test.orderOfChecks();
        test.undo();
        test.keepAndRestore();
        test.edges.finish();
    }

    // ---- HISTORY

    private void history() {
        atMostFourStates();
        oldestIsDropped();
        latestIsRestored();
        actsAreRecorded();
        noActsAreNotRecorded();
    }

    /** A party after so many days, each of which was an act. */
    private static StableParty afterDays(int days) {
        StableParty x = new StableParty();
        for (int i = 0; i < days; i++) {
            x.pass(1);
        }
        return x;
    }

    private void atMostFourStates() {
        edges.sentence("HISTORY", "A history of at most 4 states is kept");
        edges.due("no state at first", new StableParty().count(15), 0);
        for (int days = 0; days <= 9; days++) {
            int kept = Math.min(days, 4);
            StableParty x = afterDays(days);
            edges.due("states after " + days + " acts", x.count(15), kept);
            for (int i = 1; i <= kept; i++) {
                edges.due("undo " + i + " of " + days, x.undo(), kept - i);
                edges.due("the day then", x.count(0), days - i);
            }
            edges.due("no state is left of " + days, x.undo(), NONE);
            edges.due("the day stays", x.count(0), days - kept);
        }
    }

    private void oldestIsDropped() {
        edges.sentence("HISTORY", "when one more is recorded, the oldest one is dropped");
        StableParty x = afterDays(4);
        x.addGuest(1, 1);
        edges.due("still four", x.count(15), 4);
        for (int day = 4; day >= 1; day--) {
            x.undo();
            edges.due("the day " + day, x.count(0), day);
        }
        edges.due("the day 0 was dropped", x.undo(), NONE);
        StableParty y = afterDays(4);
        y.undo();
        y.undo();
        y.pass(60);
        y.pass(60);
        y.pass(60);
        int[] days = {122, 62, 2, 1};
        for (int day : days) {
            y.undo();
            edges.due("after some were undone: the day " + day, y.count(0), day);
        }
        edges.due("no more", y.undo(), NONE);
    }

    private void latestIsRestored() {
        edges.sentence("HISTORY", "undo() removes and restores the latest one");
        StableParty x = afterDays(2);
        edges.due("the latest one", x.undo(), 1);
        edges.due("its day", x.count(0), 1);
        edges.due("it is removed", x.undo(), 0);
        edges.due("the day before", x.count(0), 0);
        x.pass(5);
        edges.due("an act after it", x.undo(), 0);
        edges.due("the day before that", x.count(0), 0);
    }

    private void actsAreRecorded() {
        edges.sentence("HISTORY", "Each call of a method that is described as an act, and returns no error "
                + "and not NONE, records the state that was before it.");
        edges.acts("addGuest", Edges::openWithRoom, x -> x.addGuest(0, 9), 3);
        edges.acts("setCondition", Edges::openWithRoom, x -> x.setCondition(0), 2);
        edges.acts("setLimit", Edges::openWithRoom, x -> x.setLimit(0, 0), 99999);
        edges.acts("setWeight", Edges::openWithRoom, x -> x.setWeight(2, 9), 4);
        edges.acts("invite", Edges::openWithRoom, x -> x.invite(2, false), 1);
        edges.acts("set", Edges::openWithRoom, x -> x.set(1, 0), 500);
        edges.acts("pass", Edges::openWithRoom, x -> x.pass(60), 71);
        edges.acts("fix", Edges::openWithRoom, x -> x.fix(), 2 * 5500 + 200);
        edges.acts("cancel", Edges::fixedWithRoom, x -> x.cancel(0), 2);
        edges.acts("dissolve", Edges::fixedWithRoom, x -> x.dissolve(), 3);
        edges.acts("restore", Edges::openWithRoom, x -> x.restore(), 3);
        edges.acts("restore, when fixed", Edges::fixedWithRoom, x -> x.restore(), 3);
        edges.acts("pass, when fixed", Edges::fixedWithRoom, x -> x.pass(1), 12);
        edges.acts("addGuest to none", StableParty::new, x -> x.addGuest(1, 1), 0);
        edges.acts("pass with a full history", Edges::open, x -> x.pass(1), 12);
        edges.acts("the same condition", EdgesOfHistoryTest::withItsCondition, x -> x.setCondition(0), 1);
    }

    private static StableParty withItsCondition() {
        StableParty x = Checks.partyOf(1);
        Checks.condition(x, 0, "a");
        return x;
    }

    /** These may change the text or the snapshot, but there is no state more or less. */
    private void noActsAreNotRecorded() {
        edges.sentence("HISTORY", "Each call of a method that is described as an act");
        StableParty x = Edges.openWithRoom();
        x.type('a');
        edges.due("type", x.count(15), 3);
        x.clearText();
        edges.due("clearText", x.count(15), 3);
        x.keep();
        edges.due("keep", x.count(15), 3);
        x.undo();
        edges.due("undo", x.count(15), 2);
        edges.leavesAll("guest", Edges::openWithRoom, y -> y.guest(2, 0), 8000);
        edges.leavesAll("met", Edges::openWithRoom, y -> y.met(1, 1), 1);
        edges.leavesAll("stable", Edges::openWithRoom, y -> y.stable(1), 1);
        edges.leavesAll("fee", Edges::openWithRoom, y -> y.fee(12), 1334);
        edges.leavesAll("company(0)", Edges::openWithRoom, y -> y.company(0), 5);
        edges.leavesAll("company(1)", Edges::openWithRoom, y -> y.company(1), 5);
        edges.leavesAll("company(2)", Edges::openWithRoom, y -> y.company(2), 1);
        edges.leavesAll("company(3)", Edges::fixedWithRoom, y -> y.company(3), 7);
        edges.leavesAll("companies", Edges::openWithRoom, y -> y.companies(), 3);
        edges.leavesAll("why", Edges::openWithRoom, y -> y.why(1, 0), 1);
        edges.leavesAll("rounds", Edges::openWithRoom, y -> y.rounds(), 1);
        edges.leavesAll("needs", Edges::openWithRoom, y -> y.needs(1), 1);
        edges.leavesAll("weightOf", Edges::openWithRoom, y -> y.weightOf(0), 2);
        edges.leavesAll("leastLimit", Edges::openWithRoom, y -> y.leastLimit(0), 5500);
        edges.leavesAll("seat", Edges::fixedWithRoom, y -> y.seat(1), 1);
        edges.leavesAll("count", Edges::openWithRoom, y -> y.count(0), 11);
    }

    // ---- the snapshot

    private void snapshot() {
        edges.sentence("HISTORY", "There is one snapshot, empty at first.");
        edges.leavesAll("none at first", StableParty::new, StableParty::restore, NONE);
        edges.leavesAll("none after acts", () -> afterDays(3), StableParty::restore, NONE);
        StableParty x = new StableParty();
        edges.due("of a party without guests", x.keep(), 0);
        edges.due("it is one, too", x.restore(), 0);
        x.pass(1);
        x.keep();
        x.pass(1);
        x.keep();
        x.pass(1);
        x.restore();
        edges.due("the latest one only", x.count(0), 2);
        whatIsNoState();
    }

    private void whatIsNoState() {
        edges.sentence("HISTORY", "A state is everything but the text, the history and the snapshot.");
        StableParty x = Checks.partyOf(2);
        Checks.write(x, "b");
        x.keep();
        x.pass(1);
        Checks.write(x, "a&b");
        edges.due("undo", x.undo(), 2);
        edges.due("leaves the text", x.count(16), 3);
        edges.due("restore", x.restore(), 2);
        edges.due("leaves the text, too", x.setCondition(0), 2);
        edges.due("and the history", x.count(15), 4);
        x.undo();
        x.undo();
        x.undo();
        x.undo();
        edges.due("undo leaves the snapshot", x.restore(), 2);
        edges.due("a full text stays", lengthAfterUndo(60), 60);
        edges.due("an empty text stays", lengthAfterUndo(0), 0);
        feeThatWasPaid();
        List<Integer> kept = Story.of(() -> keptAndRestored(false));
        List<Integer> restored = Story.of(() -> keptAndRestored(true));
        edges.due("all else is restored", restored.equals(kept) ? 1 : 0, 1);
    }

    /** Half of the fee is of that which was paid in the state that is there again. */
    private void feeThatWasPaid() {
        StableParty x = Edges.fixed(Edges.party("*", "a"));
        x.keep();
        x.dissolve();
        x.set(0, 0);
        x.fix();
        x.restore();
        x.cancel(0);
        edges.due("the fee that was paid is restored", x.guest(1, 6), 2750);
        StableParty y = Edges.fixed(Edges.party("*", "a"));
        y.dissolve();
        y.set(0, 0);
        y.fix();
        y.undo();
        y.undo();
        y.undo();
        y.cancel(0);
        edges.due("the fee that was paid is back after undo", y.guest(1, 6), 2750);
    }

    private static int lengthAfterUndo(int length) {
        StableParty x = afterDays(2);
        for (int i = 0; i < length; i++) {
            x.type('a');
        }
        x.undo();
        return x.count(16);
    }

    /**
     * A party whose state was kept, and perhaps restored after much was changed; four days later, so
     * that no state in the history is from before.
     */
    private static StableParty keptAndRestored(boolean isChanged) {
        StableParty x = Edges.fixedParty();
        x.keep();
        if (isChanged) {
            x.dissolve();
            x.addGuest(7, 7);
            x.set(0, 0);
            x.setLimit(0, 0);
            Checks.condition(x, 1, "c&#2");
            x.invite(2, false);
            x.fix();
            x.cancel(1);
            x.restore();
            Checks.write(x, "b&c");
        }
        for (int i = 0; i < 4; i++) {
            x.pass(1);
        }
        return x;
    }

    // ---- ERRORS

    private void errors() {
        constants();
        noneIsReturnedLast();
        errorsChangeNothing();
    }

    private void constants() {
        edges.sentence("ERRORS", "`UNKNOWN = -1`: There is no such guest or seat.");
        edges.due("no guest", new StableParty().guest(0, 0), -1);
        edges.due("no seat", new StableParty().seat(12), -1);
        edges.sentence("ERRORS", "`BAD_VALUE = -2`: Another argument is out of range.");
        edges.due("out of range", new StableParty().fee(0), -2);
        edges.sentence("ERRORS", "`FULL = -3`: There is no more room.");
        edges.due("no more room", Edges.full().addGuest(1, 1), -3);
        edges.sentence("ERRORS", "`NOT_POSSIBLE = -4`: This is not possible.");
        edges.due("not possible", new StableParty().dissolve(), -4);
        edges.sentence("ERRORS", "`NONE = -5`: There is no such thing; not an error.");
        edges.due("no such thing", new StableParty().undo(), -5);
    }

    private void noneIsReturnedLast() {
        edges.sentence("ERRORS", "NONE is no error; it is returned only if no error applies.");
        edges.due("setLimit as it is, but fixed", Edges.fixedParty().setLimit(0, 99999), NOT_POSSIBLE);
        edges.due("setWeight as it is, but fixed", Edges.fixedParty().setWeight(0, 1), NOT_POSSIBLE);
        edges.due("invite as it is, but fixed", Edges.fixedParty().invite(0, true), NOT_POSSIBLE);
        edges.due("set as it is, but fixed", Edges.fixedParty().set(0, 10000), NOT_POSSIBLE);
        edges.due("fix when nobody is left", Edges.fixed(Edges.party("*")).fix(), NOT_POSSIBLE);
        edges.due("why not, but a bad value", Edges.full().why(0, 5), BAD_VALUE);
        edges.due("why not, but no guest", Edges.full().why(12, 1), UNKNOWN);
        edges.due("an empty seat, but no seat", new StableParty().seat(12), UNKNOWN);
        edges.due("no seat of a guest, but no guest", new StableParty().guest(0, 7), UNKNOWN);
    }

    private void errorsChangeNothing() {
        edges.sentence("ERRORS", "A call that returns an error or NONE changes nothing.");
        edges.leavesAll("addGuest: BAD_VALUE", Edges::open, x -> x.addGuest(0, 0), BAD_VALUE);
        edges.leavesAll("addGuest: NOT_POSSIBLE", Edges::fixedParty, x -> x.addGuest(1, 1), NOT_POSSIBLE);
        edges.leavesAll("addGuest: FULL", Edges::full, x -> x.addGuest(1, 1), FULL);
        edges.leavesAll("setCondition: UNKNOWN", Edges::open, x -> x.setCondition(3), UNKNOWN);
        edges.leavesAll("setCondition: a fault", () -> withText("a&b|"), x -> x.setCondition(2), -104);
        edges.leavesAll("setCondition: BAD_VALUE", () -> withText("a&d"), x -> x.setCondition(2), BAD_VALUE);
        edges.leavesAll("setCondition: NOT_POSSIBLE", Edges::fixedParty, x -> x.setCondition(2), NOT_POSSIBLE);
        edges.leavesAll("setLimit: UNKNOWN", Edges::open, x -> x.setLimit(3, 1), UNKNOWN);
        edges.leavesAll("setLimit: BAD_VALUE", Edges::open, x -> x.setLimit(0, 100000), BAD_VALUE);
        edges.leavesAll("setLimit: NOT_POSSIBLE", Edges::fixedParty, x -> x.setLimit(0, 1), NOT_POSSIBLE);
        edges.leavesAll("setLimit: NONE", Edges::open, x -> x.setLimit(2, 8000), NONE);
        edges.leavesAll("setWeight: UNKNOWN", Edges::open, x -> x.setWeight(3, 1), UNKNOWN);
        edges.leavesAll("setWeight: BAD_VALUE", Edges::open, x -> x.setWeight(0, 10), BAD_VALUE);
        edges.leavesAll("setWeight: NOT_POSSIBLE", Edges::fixedParty, x -> x.setWeight(0, 2), NOT_POSSIBLE);
        edges.leavesAll("setWeight: NONE", Edges::open, x -> x.setWeight(2, 4), NONE);
        edges.leavesAll("invite: UNKNOWN", Edges::open, x -> x.invite(3, false), UNKNOWN);
        edges.leavesAll("invite: NOT_POSSIBLE", Edges::fixedParty, x -> x.invite(0, false), NOT_POSSIBLE);
        edges.leavesAll("invite: NONE", Edges::open, x -> x.invite(1, true), NONE);
        edges.leavesAll("set: BAD_VALUE", Edges::open, x -> x.set(2, 13), BAD_VALUE);
        edges.leavesAll("set: NOT_POSSIBLE", Edges::fixedParty, x -> x.set(2, 2), NOT_POSSIBLE);
        edges.leavesAll("set: NONE", Edges::open, x -> x.set(2, 12), NONE);
        edges.leavesAll("pass: BAD_VALUE", Edges::open, x -> x.pass(61), BAD_VALUE);
        edges.leavesAll("pass: NOT_POSSIBLE", EdgesOfHistoryTest::onTheLastDay, x -> x.pass(1), NOT_POSSIBLE);
        edges.leavesAll("fix: NOT_POSSIBLE", Edges::fixedParty, StableParty::fix, NOT_POSSIBLE);
        edges.leavesAll("fix: NONE", () -> Edges.party("2:a", "a"), StableParty::fix, NONE);
        edges.leavesAll("cancel: UNKNOWN", Edges::fixedParty, x -> x.cancel(3), UNKNOWN);
        edges.leavesAll("cancel: NOT_POSSIBLE", Edges::fixedParty, x -> x.cancel(2), NOT_POSSIBLE);
        edges.leavesAll("dissolve: NOT_POSSIBLE", Edges::open, StableParty::dissolve, NOT_POSSIBLE);
        edges.leavesAll("type: FULL", () -> withText(Edges.repeated("b&", 60)), x -> x.type('c'), FULL);
        edges.leavesAll("undo: NONE", EdgesOfHistoryTest::withoutHistory, StableParty::undo, NONE);
        edges.leavesAll("restore: NONE", () -> Edges.party("a", "*"), StableParty::restore, NONE);
        edges.leavesAll("guest: UNKNOWN", Edges::open, x -> x.guest(3, 0), UNKNOWN);
        edges.leavesAll("guest: BAD_VALUE", Edges::open, x -> x.guest(0, 8), BAD_VALUE);
        edges.leavesAll("guest: NONE", Edges::open, x -> x.guest(0, 7), NONE);
        edges.leavesAll("met: UNKNOWN", Edges::open, x -> x.met(3, 0), UNKNOWN);
        edges.leavesAll("met: BAD_VALUE", Edges::open, x -> x.met(0, 8), BAD_VALUE);
        edges.leavesAll("stable: BAD_VALUE", Edges::open, x -> x.stable(8), BAD_VALUE);
        edges.leavesAll("fee: BAD_VALUE", Edges::open, x -> x.fee(13), BAD_VALUE);
        edges.leavesAll("company: BAD_VALUE", Edges::open, x -> x.company(4), BAD_VALUE);
        edges.leavesAll("company: NONE", Edges::open, x -> x.company(3), NONE);
        edges.leavesAll("why: UNKNOWN", Edges::open, x -> x.why(3, 0), UNKNOWN);
        edges.leavesAll("why: BAD_VALUE", Edges::open, x -> x.why(0, 5), BAD_VALUE);
        edges.leavesAll("why: NONE", Edges::open, x -> x.why(0, 1), NONE);
        edges.leavesAll("needs: UNKNOWN", Edges::open, x -> x.needs(3), UNKNOWN);
        edges.leavesAll("needs: NONE", () -> Edges.party("#2"), x -> x.needs(0), NONE);
        edges.leavesAll("weightOf: UNKNOWN", Edges::open, x -> x.weightOf(3), UNKNOWN);
        edges.leavesAll("weightOf: NONE", Edges::openWithRoom, x -> x.weightOf(1), NONE);
        edges.leavesAll("leastLimit: UNKNOWN", Edges::open, x -> x.leastLimit(3), UNKNOWN);
        edges.leavesAll("leastLimit: NONE", Edges::openWithRoom, x -> x.leastLimit(1), NONE);
        edges.leavesAll("seat: UNKNOWN", Edges::fixedParty, x -> x.seat(12), UNKNOWN);
        edges.leavesAll("seat: NONE", Edges::fixedParty, x -> x.seat(2), NONE);
        edges.leavesAll("count: BAD_VALUE", Edges::open, x -> x.count(17), BAD_VALUE);
    }

    private static StableParty withText(String text) {
        StableParty x = Edges.open();
        Checks.write(x, text);
        return x;
    }

    private static StableParty onTheLastDay() {
        return Edges.onDay(999, Edges.open());
    }

    private static StableParty withoutHistory() {
        StableParty x = Edges.fixedParty();
        for (int i = 0; i < 4; i++) {
            x.undo();
        }
        return x;
    }

    private void orderOfChecks() {
        edges.sentence("ERRORS", "Where several errors can apply, the order of the @return line is the order of "
                + "the checks.");
        StableParty fixedFull = Edges.fixed(Edges.full());
        edges.due("addGuest: BAD_VALUE before NOT_POSSIBLE and FULL", fixedFull.addGuest(-1, 1), BAD_VALUE);
        edges.due("addGuest: NOT_POSSIBLE before FULL", fixedFull.addGuest(1, 1), NOT_POSSIBLE);
        edges.due("addGuest: BAD_VALUE before FULL", Edges.full().addGuest(1, 10), BAD_VALUE);
        edges.due("addGuest: BAD_VALUE before NOT_POSSIBLE", Edges.fixedParty().addGuest(100000, 1), BAD_VALUE);
        StableParty fixed = Edges.fixedParty();
        Checks.write(fixed, "d&");
        edges.due("setCondition: UNKNOWN before all", fixed.setCondition(3), UNKNOWN);
        edges.due("setCondition: a fault before BAD_VALUE and NOT_POSSIBLE", fixed.setCondition(0), -102);
        fixed.type('a');
        edges.due("setCondition: UNKNOWN before BAD_VALUE and NOT_POSSIBLE", fixed.setCondition(-1), UNKNOWN);
        edges.due("setCondition: BAD_VALUE before NOT_POSSIBLE", fixed.setCondition(0), BAD_VALUE);
        Checks.write(fixed, "b");
        edges.due("setCondition: UNKNOWN before NOT_POSSIBLE", fixed.setCondition(12), UNKNOWN);
        edges.due("setCondition: NOT_POSSIBLE", fixed.setCondition(0), NOT_POSSIBLE);
        edges.due("setCondition: a fault before BAD_VALUE", withText("d&&").setCondition(0), -102);
        edges.due("setCondition: UNKNOWN before a fault", withText("").setCondition(3), UNKNOWN);
        edges.due("setCondition: UNKNOWN before BAD_VALUE", withText("l").setCondition(3), UNKNOWN);
        edges.due("setLimit: UNKNOWN before BAD_VALUE", Edges.open().setLimit(3, -1), UNKNOWN);
        edges.due("setLimit: UNKNOWN before NOT_POSSIBLE", fixed.setLimit(3, 1), UNKNOWN);
        edges.due("setLimit: UNKNOWN before all", fixed.setLimit(-1, -1), UNKNOWN);
        edges.due("setLimit: BAD_VALUE before NOT_POSSIBLE", fixed.setLimit(0, 100000), BAD_VALUE);
        edges.due("setWeight: UNKNOWN before BAD_VALUE", Edges.open().setWeight(3, 0), UNKNOWN);
        edges.due("setWeight: UNKNOWN before NOT_POSSIBLE", fixed.setWeight(3, 1), UNKNOWN);
        edges.due("setWeight: UNKNOWN before all", fixed.setWeight(-1, 10), UNKNOWN);
        edges.due("setWeight: BAD_VALUE before NOT_POSSIBLE", fixed.setWeight(0, 0), BAD_VALUE);
        edges.due("invite: UNKNOWN before NOT_POSSIBLE", fixed.invite(3, true), UNKNOWN);
        edges.due("set: BAD_VALUE before NOT_POSSIBLE, what", fixed.set(5, 1), BAD_VALUE);
        edges.due("set: BAD_VALUE before NOT_POSSIBLE, value", fixed.set(2, 0), BAD_VALUE);
        edges.due("pass: BAD_VALUE before NOT_POSSIBLE", onTheLastDay().pass(61), BAD_VALUE);
        edges.due("cancel: UNKNOWN before NOT_POSSIBLE", Edges.open().cancel(3), UNKNOWN);
        edges.due("guest: UNKNOWN before BAD_VALUE", fixed.guest(3, 8), UNKNOWN);
        edges.due("met: UNKNOWN before BAD_VALUE", fixed.met(3, 8), UNKNOWN);
        edges.due("why: UNKNOWN before BAD_VALUE", fixed.why(3, 5), UNKNOWN);
        edges.due("why: BAD_VALUE before NONE", fixed.why(0, -1), BAD_VALUE);
        edges.due("company: BAD_VALUE before NONE", new StableParty().company(4), BAD_VALUE);
    }

    // ---- promises 14 to 16

    private void undo() {
        edges.sentence("Promise 14", "Returns the number of states that are left; NONE if the history is empty.");
        edges.leavesAll("an empty history", StableParty::new, StableParty::undo, NONE);
        edges.leavesAll("one that became empty", EdgesOfHistoryTest::withoutHistory, StableParty::undo, NONE);
        StableParty x = afterDays(4);
        for (int left = 3; left >= 0; left--) {
            edges.due("undo", x.undo(), left);
            edges.due("the states then", x.count(15), left);
        }
        edges.due("undo of nothing", x.undo(), NONE);
        edges.due("and once more", x.undo(), NONE);
        edges.due("no state", x.count(15), 0);
    }

    private void keepAndRestore() {
        edges.sentence("Promise 15", "Returns the number of guests.");
        edges.due("no guest", new StableParty().keep(), 0);
        edges.due("twelve guests", Edges.full().keep(), 12);
        edges.due("also of those who are not invited", Edges.openWithRoom().keep(), 3);
        edges.due("also when fixed", Edges.fixedParty().keep(), 3);
        edges.sentence("Promise 15", "Takes a snapshot of the state, in place of the one that was.");
        StableParty x = Edges.full();
        x.keep();
        StableParty y = new StableParty();
        edges.due("one that is empty of guests", y.keep(), 0);
        y.addGuest(1, 1);
        edges.due("one with a guest in place of it", y.keep(), 1);
        y.addGuest(1, 1);
        edges.due("is restored", y.restore(), 1);
        edges.due("restored again", y.restore(), 1);
        edges.sentence("Promise 16", "Restores the state of the snapshot, which stays.");
        x.set(0, 0);
        for (int i = 0; i < 6; i++) {
            edges.due("again and again", x.restore(), 12);
            edges.due("at most four states", x.count(15), 4);
        }
        edges.due("the hall is restored", x.count(3), 10000);
        edges.sentence("Promise 16", "Returns the number of guests then; NONE if there is no snapshot.");
        edges.leavesAll("no snapshot", Edges::full, StableParty::restore, NONE);
        StableParty fewer = new StableParty();
        fewer.keep();
        fewer.addGuest(1, 1);
        edges.due("no guests then", fewer.restore(), 0);
        edges.due("no guest 0", fewer.guest(0, 0), UNKNOWN);
        edges.due("undo brings the guest back", fewer.undo(), 1);
        edges.due("the guest 0", fewer.guest(0, 0), 1);
    }
}
