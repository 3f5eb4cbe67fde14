import java.util.function.ToIntFunction;

/** Promises 14 to 16: undo and the snapshot; and which calls are acts. */
public final class HistoryTest {
    private static final int NONE = StableParty.NONE;
    private static final Checks checks = new Checks("HistoryTest");

    public static void main(String[] args) {
        undo();
        onlyFourStates();
        undoOfAll();
        keep();
        restore();
        feeIsRestored();
        snapshotIsNoState();
        whatIsNoAct();
        whatIsAnAct();
        checks.finish();
    }

    /** Promise 14. */
    private static void undo() {
        StableParty x = new StableParty();
        checks.due("undo of nothing", x.undo(), NONE);
        x.addGuest(1, 1);
        x.addGuest(2, 2);
        checks.due("undo", x.undo(), 1);
        checks.due("one guest is left", x.count(1), 1);
        checks.due("undo again", x.undo(), 0);
        checks.due("nobody is left", x.count(1), 0);
        checks.due("no guest 0", x.guest(0, 0), StableParty.UNKNOWN);
        checks.due("undo a third time", x.undo(), NONE);
        x.addGuest(7, 3);
        checks.due("a new guest in the old place", x.guest(0, 0), 7);
        checks.due("its weight", x.guest(0, 1), 3);
    }

    private static void onlyFourStates() {
        StableParty x = new StableParty();
        for (int i = 1; i <= 7; i++) {
            x.pass(i);
            checks.due("states after " + i + " acts", x.count(15), Math.min(i, 4));
        }
        int[] days = {21, 15, 10, 6};
        for (int i = 0; i < 4; i++) {
            checks.due("undo " + i, x.undo(), 3 - i);
            checks.due("the day after undo " + i, x.count(0), days[i]);
        }
        checks.due("the oldest ones are dropped", x.undo(), NONE);
        checks.due("the day stays", x.count(0), 6);
        x.pass(10);
        x.pass(10);
        checks.due("undo of a new act", x.undo(), 1);
        checks.due("the day then", x.count(0), 16);
    }

    /** Everything but the text, the history and the snapshot is a state. */
    private static void undoOfAll() {
        StableParty x = Checks.partyOf(3);
        x.addGuest(5, 5);
        Checks.condition(x, 1, "a&c");
        x.set(3, 0);
        x.pass(3);
        x.setLimit(1, 50000);
        x.fix();
        x.cancel(0);
        checks.due("b leaves with a", x.company(3), 4);
        checks.due("undo of cancel", x.undo(), 3);
        checks.due("the company of before", x.company(3), 7);
        checks.due("cancellations of before", x.count(12), 0);
        checks.due("followers of before", x.count(13), 0);
        checks.due("nothing is given back", x.guest(1, 6), 0);
        checks.due("the seats of before", x.seat(0), 0);
        checks.due("undo of fix", x.undo(), 2);
        checks.due("none is fixed", x.count(8), 0);
        checks.due("nothing is paid", x.count(9), 0);
        checks.due("the charges of before", x.guest(1, 3), 200);
        checks.due("companies of before", x.count(11), 0);
        checks.due("undo of setLimit", x.undo(), 1);
        checks.due("no charges", x.guest(1, 3), 0);
        checks.due("the limit of before", x.guest(1, 0), 99999);
        checks.due("undo of pass", x.undo(), 0);
        checks.due("the day of before", x.count(0), 0);
        checks.due("the closing stays", x.count(6), 0);
        checks.due("the condition stays", x.met(1, 1), 0);
    }

    /** Promise 15. */
    private static void keep() {
        StableParty x = new StableParty();
        checks.due("keep without guests", x.keep(), 0);
        x.addGuest(1, 1);
        x.addGuest(1, 1);
        checks.due("keep with two", x.keep(), 2);
        checks.due("keep is no act", x.count(15), 2);
        x.addGuest(1, 1);
        checks.due("the latest snapshot counts", x.restore(), 2);
    }

    /** Promise 16. */
    private static void restore() {
        StableParty x = Checks.partyOf(2);
        checks.due("no snapshot", x.restore(), NONE);
        checks.due("NONE records nothing", x.count(15), 2);
        Checks.condition(x, 0, "b");
        x.fix();
        x.keep();
        x.dissolve();
        x.setLimit(1, 5);
        x.setWeight(0, 8);
        Checks.condition(x, 0, "a|b");
        x.invite(0, false);
        x.set(0, 1);
        x.pass(5);
        checks.due("restore", x.restore(), 2);
        checks.due("fixed again", x.company(3), 3);
        checks.due("the limit", x.guest(1, 0), 99999);
        checks.due("the weight", x.guest(0, 1), 1);
        checks.due("the condition", x.guest(0, 4), 2);
        checks.due("the invitation", x.guest(0, 2), 1);
        checks.due("the hall", x.count(3), 10000);
        checks.due("the day", x.count(0), 0);
        checks.due("the seat", x.guest(1, 7), 1);
        checks.due("restore is an act", x.undo(), 3);
        checks.due("what was before it", x.count(0), 5);
        checks.due("the hall that was before it", x.count(3), 1);
        checks.due("the snapshot stays", x.restore(), 2);
        checks.due("the day again", x.count(0), 0);
        x.cancel(1);
        checks.due("it stays unchanged", x.restore(), 2);
        checks.due("all are there", x.company(3), 3);
    }

    /** Half of the fee that was paid is given back, also if another one was paid in the meantime. */
    private static void feeIsRestored() {
        StableParty x = Checks.partyOf(2);
        Checks.condition(x, 1, "a");
        x.fix();
        x.keep();
        x.dissolve();
        x.set(0, 0);
        x.fix();
        x.undo();
        x.undo();
        x.undo();
        x.cancel(0);
        checks.due("half of the undone fee", x.guest(1, 6), 2750);
        x.dissolve();
        x.set(0, 0);
        x.fix();
        x.restore();
        x.cancel(0);
        checks.due("half of the restored fee", x.guest(1, 6), 2750);
    }

    private static void snapshotIsNoState() {
        StableParty x = new StableParty();
        x.pass(1);
        x.keep();
        x.pass(2);
        x.undo();
        x.undo();
        checks.due("the snapshot outlives undo", x.restore(), 0);
        checks.due("its day", x.count(0), 1);
        x.pass(3);
        x.keep();
        x.undo();
        checks.due("an older state has the newer snapshot", x.restore(), 0);
        checks.due("its day", x.count(0), 4);
    }

    private static void whatIsNoAct() {
        StableParty x = Checks.partyOf(3);
        x.fix();
        x.undo();
        x.type('a');
        x.clearText();
        x.keep();
        x.guest(0, 0);
        x.met(0, 1);
        x.stable(1);
        x.fee(1);
        for (int what = 0; what < 4; what++) {
            x.company(what);
            x.why(0, what);
        }
        x.companies();
        x.rounds();
        x.needs(0);
        x.weightOf(0);
        x.leastLimit(0);
        x.seat(0);
        checks.due("nothing more is recorded", x.count(15), 3);
        x.pass(0);
        x.addGuest(-1, 1);
        x.setLimit(0, 99999);
        x.cancel(0);
        x.dissolve();
        x.set(0, 10000);
        checks.due("errors and NONE record nothing", x.count(15), 3);
        x.undo();
        checks.due("undo records nothing", x.count(15), 2);
    }

    private static void whatIsAnAct() {
        act("addGuest", x -> x.addGuest(0, 1), 1);
        act("setCondition", x -> x.setCondition(0), 0);
        act("setLimit", x -> x.setLimit(0, 4), 99999);
        act("setWeight", x -> x.setWeight(0, 4), 1);
        act("invite", x -> x.invite(0, false), 0);
        act("set", x -> x.set(1, 0), 500);
        act("pass", x -> x.pass(60), 60);
        act("fix", x -> x.fix(), 10500);
        act("restore", x -> x.restore(), 1);
        actWhenFixed("pass", x -> x.pass(60), 60);
        actWhenFixed("cancel", x -> x.cancel(0), 1);
        actWhenFixed("dissolve", x -> x.dissolve(), 1);
        actWhenFixed("restore", x -> x.restore(), 1);
    }

    private static void act(String name, ToIntFunction<StableParty> call, int due) {
        recorded(partyToChange(), name, call, due);
    }

    private static void actWhenFixed(String name, ToIntFunction<StableParty> call, int due) {
        StableParty x = partyToChange();
        x.fix();
        recorded(x, name + " when fixed", call, due);
    }

    private static StableParty partyToChange() {
        StableParty x = Checks.partyOf(1);
        Checks.write(x, "*");
        x.keep();
        return x;
    }

    private static void recorded(StableParty x, String name, ToIntFunction<StableParty> call, int due) {
        int states = x.count(15);
        checks.due(name, call.applyAsInt(x), due);
        checks.due(name + " records a state", x.count(15), states + 1);
        checks.due(name + " can be undone", x.undo(), states);
        checks.due(name + " can be done again", call.applyAsInt(x), due);
    }
}
