import java.io.IOException;

/** The boundary cases of the terms DAYS AND CHANGES and FIXING, sentence by sentence. */
public final class EdgesOfHappeningsTest {
    private static final int BAD_VALUE = StableParty.BAD_VALUE;
    private static final int NOT_POSSIBLE = StableParty.NOT_POSSIBLE;
    private static final int NONE = StableParty.NONE;
    private static final int ALL = 4095;

    private final Edges edges = new Edges("EdgesOfHappeningsTest");

    private EdgesOfHappeningsTest() throws IOException {
    }

    public static void main(String[] args) throws IOException {
        EdgesOfHappeningsTest test = new EdgesOfHappeningsTest();
        test.daysAndChanges();
        test.fixing();
        test.cancelling();
        test.dissolving();
        test.edges.finish();
    }

    // ---- DAYS AND CHANGES

    private void daysAndChanges() {
        dayAtFirst();
        afterTheClosing();
        closings();
        lateCharges();
        sameConditionIsCharged();
        changesThatAreCharged();
        changesThatAreNotCharged();
        addingChargesNothing();
    }

    private static StableParty onDay(int day) {
        return Edges.onDay(day, Edges.party("*", "a", "*"));
    }

    private void dayAtFirst() {
        edges.sentence("DAYS AND CHANGES", "The day is 0 at first.");
        StableParty x = new StableParty();
        edges.due("a new party's", x.count(0), 0);
        x.addGuest(1, 1);
        edges.due("an act lets no day pass", x.count(0), 0);
        edges.due("the first day", x.pass(1), 1);
    }

    private void afterTheClosing() {
        edges.sentence("DAYS AND CHANGES", "on a day that is greater than the closing");
        int[][] rows = {
            // the closing, the day, the charges after a change
            {10, 0, 0}, {10, 9, 0}, {10, 10, 0}, {10, 11, 200}, {10, 999, 200}, {0, 0, 0}, {0, 1, 200},
            {1, 1, 0}, {1, 2, 200}, {998, 998, 0}, {998, 999, 200}, {999, 998, 0}, {999, 999, 0}};
        for (int[] row : rows) {
            StableParty x = onDay(row[1]);
            x.set(3, row[0]);
            String when = "closing " + row[0] + ", day " + row[1] + ": ";
            x.setLimit(0, 50000);
            edges.due(when + "a limit", x.guest(0, 3), row[2]);
            Checks.condition(x, 1, "a&b");
            edges.due(when + "a condition", x.guest(1, 3), row[2]);
            x.invite(2, false);
            edges.due(when + "an invitation", x.guest(2, 3), row[2]);
        }
    }

    private void closings() {
        edges.sentence("DAYS AND CHANGES", "(0 to 999, at first 10)");
        StableParty x = new StableParty();
        edges.due("at first", x.count(6), 10);
        edges.due("the greatest", x.set(3, 999), 10);
        edges.due("is told", x.count(6), 999);
        edges.due("the least", x.set(3, 0), 999);
        edges.due("is told", x.count(6), 0);
        edges.leavesAll("beyond the least", Edges::openWithRoom, y -> y.set(3, -1), BAD_VALUE);
        edges.leavesAll("beyond the greatest", Edges::openWithRoom, y -> y.set(3, 1000), BAD_VALUE);
    }

    private void lateCharges() {
        edges.sentence("DAYS AND CHANGES", "charges the guest with the late charge (0 to 9999, at first 200)");
        StableParty x = onDay(11);
        edges.due("at first", x.count(7), 200);
        edges.due("the greatest", x.set(4, 9999), 200);
        x.setLimit(2, 1);
        edges.due("is charged", x.guest(2, 3), 9999);
        edges.due("the other ones are not charged", x.count(14), 9999);
        x.setLimit(2, 2);
        edges.due("is charged again", x.guest(2, 3), 19998);
        edges.due("the least", x.set(4, 0), 9999);
        x.setLimit(2, 3);
        edges.due("nothing is charged", x.guest(2, 3), 19998);
        edges.due("one cent", x.set(4, 1), 0);
        x.setLimit(2, 4);
        edges.due("is charged", x.guest(2, 3), 19999);
        edges.leavesAll("beyond the least", Edges::openWithRoom, y -> y.set(4, -1), BAD_VALUE);
        edges.leavesAll("beyond the greatest", Edges::openWithRoom, y -> y.set(4, 10000), BAD_VALUE);
    }

    private void sameConditionIsCharged() {
        edges.sentence("DAYS AND CHANGES", "also if the condition is the same");
        StableParty x = onDay(11);
        Checks.write(x, "a");
        x.setCondition(1);
        edges.due("the same condition", x.guest(1, 3), 200);
        x.setCondition(1);
        edges.due("once more", x.guest(1, 3), 400);
        Checks.condition(x, 0, "*");
        edges.due("the first condition", x.guest(0, 3), 200);
    }

    private void changesThatAreCharged() {
        edges.sentence("DAYS AND CHANGES", "A change of a condition or of a limit, or an invitation (either way)");
        StableParty x = onDay(11);
        x.invite(1, false);
        edges.due("taken back", x.guest(1, 3), 200);
        x.invite(1, true);
        edges.due("given", x.guest(1, 3), 400);
        x.setLimit(1, 0);
        edges.due("a limit", x.guest(1, 3), 600);
        Checks.condition(x, 1, "b");
        edges.due("a condition", x.guest(1, 3), 800);
        edges.due("only of this guest", x.count(14), 800);
        x.invite(1, false);
        Checks.condition(x, 1, "a");
        edges.due("also of one who is not invited", x.guest(1, 3), 1200);
    }

    private void changesThatAreNotCharged() {
        edges.sentence("DAYS AND CHANGES", "A change of a condition or of a limit, or an invitation");
        edges.leavesAll("a limit that is so already", () -> onDay(11), x -> x.setLimit(0, 99999), NONE);
        edges.leavesAll("an invitation that is so already", () -> onDay(11), x -> x.invite(0, true), NONE);
        StableParty x = onDay(11);
        x.setWeight(0, 9);
        x.set(0, 1);
        x.pass(1);
        x.fix();
        x.cancel(0);
        x.dissolve();
        x.keep();
        x.restore();
        edges.due("nothing else is charged", x.count(14), 0);
        Checks.condition(x, 0, "a&");
        edges.due("a text with a fault is not charged", x.count(14), 0);
    }

    private void addingChargesNothing() {
        edges.sentence("DAYS AND CHANGES", "adding a guest charges nothing");
        StableParty x = onDay(999);
        for (int guest = 3; guest < 12; guest++) {
            x.addGuest(1, 1);
            edges.due("the guest " + guest, x.guest(guest, 3), 0);
        }
        edges.due("all", x.count(14), 0);
    }

    // ---- FIXING

    private void fixing() {
        notIfEmpty();
        payingFees();
        payingCharges();
        seatsFromZero();
        changesWhileFixed();
        changesWhenNobodyIsLeft();
    }

    private void notIfEmpty() {
        edges.sentence("FIXING", "The chosen company can be fixed, if it is not empty.");
        edges.leavesAll("without guests", StableParty::new, StableParty::fix, NONE);
        edges.leavesAll("nobody comes", () -> Edges.party("#2"), StableParty::fix, NONE);
        edges.leavesAll("nobody is invited", () -> {
            StableParty x = Checks.partyOf(1);
            x.invite(0, false);
            return x;
        }, StableParty::fix, NONE);
        edges.leavesAll("too few places for the only one", () -> {
            StableParty x = Edges.party("b", "a");
            x.set(2, 1);
            return x;
        }, StableParty::fix, NONE);
        edges.acts("one guest", () -> Checks.partyOf(1), StableParty::fix, 10500);
        edges.acts("twelve guests", Edges::full, StableParty::fix, 12 * 1334);
        StableParty x = Edges.party("*", "*", "*");
        x.set(2, 2);
        x.fix();
        edges.due("the chosen one, not the greatest", x.company(3), 3);
    }

    private void payingFees() {
        edges.sentence("FIXING", "Each of its guests then pays the fee of their number");
        for (int many = 1; many <= 12; many++) {
            StableParty x = Edges.full();
            x.set(2, many);
            int fee = x.fee(many);
            edges.due("all, of " + many, x.fix(), many * fee);
            for (int guest = 0; guest < 12; guest++) {
                edges.due("the guest " + guest, x.guest(guest, 5), guest < many ? fee : 0);
            }
        }
        StableParty most = Checks.partyOf(2);
        most.set(0, 99999);
        most.set(1, 9999);
        edges.due("the greatest fee that can be paid by two", most.fix(), 2 * 59999);
        StableParty least = Edges.full();
        least.set(0, 0);
        least.set(1, 0);
        edges.due("a fee of 0", least.fix(), 0);
        edges.due("is paid", least.company(3), ALL);
    }

    private void payingCharges() {
        edges.sentence("FIXING", "and the charges (which are 0 then)");
        StableParty x = onDay(11);
        x.invite(1, false);
        x.setLimit(2, 50000);
        edges.due("with the charges", x.fix(), 2 * 5500 + 200);
        edges.due("who was not charged", x.guest(0, 5), 5500);
        edges.due("who was", x.guest(2, 5), 5700);
        edges.due("0 then", x.guest(2, 3), 0);
        edges.due("one who does not come pays nothing", x.guest(1, 5), 0);
        edges.due("and keeps the charges", x.guest(1, 3), 200);
        x.dissolve();
        edges.due("charges are paid once", x.fix(), 2 * 5500);
        StableParty y = onDay(11);
        y.setLimit(0, 3834);
        edges.due("a limit is about the fee alone", y.fix(), 3 * 3834 + 200);
    }

    private void seatsFromZero() {
        edges.sentence("FIXING", "they sit on the seats from 0 on by their numbers");
        StableParty x = Edges.full();
        x.fix();
        for (int seat = 0; seat < 12; seat++) {
            edges.due("the seat " + seat, x.seat(seat), seat);
            edges.due("the guest on it", x.guest(seat, 7), seat);
        }
        StableParty y = Edges.full();
        for (int guest = 0; guest < 11; guest++) {
            y.invite(guest, false);
        }
        y.fix();
        edges.due("the last guest alone", y.seat(0), 11);
        edges.due("is told", y.guest(11, 7), 0);
        edges.due("the others have none", y.guest(0, 7), NONE);
        edges.due("the next seat is empty", y.seat(1), NONE);
        edges.due("the last seat is empty", y.seat(11), NONE);
    }

    private void changesWhileFixed() {
        edges.sentence("FIXING", "As long as it is fixed, guests, conditions, limits, weights, invitations "
                + "and settings cannot be changed.");
        refusesChanges("fixed: ", false);
        StableParty x = Edges.fixedParty();
        edges.due("but days can pass", x.pass(1), 12);
        edges.due("and texts can be written", x.type('|'), 4);
        x.clearText();
        edges.due("and the snapshot be restored, which is not fixed", x.restore(), 3);
        edges.due("so it is not fixed", x.count(8), 0);
        edges.due("and undone", x.undo(), 3);
        edges.due("so it is fixed again", x.count(8), 1);
    }

    private static StableParty fixedOrEmpty(boolean isEmpty) {
        StableParty x = Edges.fixedWithRoom();
        if (isEmpty) {
            x.cancel(2);
            x.cancel(1);
            x.cancel(0);
        }
        return x;
    }

    private void refusesChanges(String when, boolean isEmpty) {
        edges.leavesAll(when + "guests", () -> fixedOrEmpty(isEmpty), x -> x.addGuest(1, 1), NOT_POSSIBLE);
        edges.leavesAll(when + "conditions", () -> fixedOrEmpty(isEmpty), x -> x.setCondition(0), NOT_POSSIBLE);
        edges.leavesAll(when + "limits", () -> fixedOrEmpty(isEmpty), x -> x.setLimit(0, 1), NOT_POSSIBLE);
        edges.leavesAll(when + "weights", () -> fixedOrEmpty(isEmpty), x -> x.setWeight(0, 2), NOT_POSSIBLE);
        edges.leavesAll(when + "invitations", () -> fixedOrEmpty(isEmpty), x -> x.invite(0, false), NOT_POSSIBLE);
        for (int what = 0; what < 5; what++) {
            int setting = what;
            edges.leavesAll(when + "the setting " + what, () -> fixedOrEmpty(isEmpty), x -> x.set(setting, 7),
                    NOT_POSSIBLE);
        }
        edges.leavesAll(when + "another company", () -> fixedOrEmpty(isEmpty), StableParty::fix, NOT_POSSIBLE);
    }

    private void changesWhenNobodyIsLeft() {
        edges.sentence("FIXING", "(The company stays fixed, also if nobody is left.)");
        StableParty x = fixedOrEmpty(true);
        edges.due("nobody is left", x.company(3), 0);
        edges.due("it is fixed", x.count(8), 1);
        refusesChanges("nobody is left: ", true);
        for (int guest = 0; guest < 3; guest++) {
            int who = guest;
            edges.leavesAll("cancel(" + guest + ")", () -> fixedOrEmpty(true), y -> y.cancel(who), NOT_POSSIBLE);
        }
        edges.due("it can be dissolved", x.dissolve(), 0);
        edges.due("and is not fixed then", x.count(8), 0);
        StableParty y = Edges.fixed(Checks.partyOf(1));
        edges.due("the only one leaves", y.cancel(0), 1);
        edges.due("it is fixed, too", y.count(8), 1);
        edges.due("nobody is left, too", y.company(3), 0);
    }

    // ---- a guest cancels

    private void cancelling() {
        nothingBack();
        leavingInRounds();
        feesDoNotCount();
        halfOfTheFee();
        roundedDown();
        nobodyMoves();
    }

    private void nothingBack() {
        edges.sentence("FIXING", "A guest of a fixed company can cancel: the guest leaves, and gets nothing back.");
        for (int guest = 0; guest < 12; guest += 11) {
            StableParty x = Edges.fixed(Edges.full());
            edges.due("one leaves", x.cancel(guest), 1);
            edges.due("who is left", x.company(3), ALL - (1 << guest));
            edges.due("nothing back", x.guest(guest, 6), 0);
            edges.due("what was paid stays", x.guest(guest, 5), 1334);
            edges.due("nothing back to all", x.count(10), 0);
        }
        edges.leavesAll("not one who is not in it", () -> {
            StableParty x = Checks.partyOf(2);
            x.invite(1, false);
            return Edges.fixed(x);
        }, x -> x.cancel(1), NOT_POSSIBLE);
        edges.leavesAll("none is fixed", Edges::open, x -> x.cancel(0), NOT_POSSIBLE);
        edges.leavesAll("not any more in it", Edges::fixedParty, x -> x.cancel(2), NOT_POSSIBLE);
    }

    private void leavingInRounds() {
        edges.sentence("FIXING",
                "Then, in rounds as above, all guests leave whose conditions are not met by those who are left");
        StableParty down = Edges.full();
        for (int guest = 1; guest < 12; guest++) {
            Checks.condition(down, guest, "" + (char) ('a' + guest - 1));
        }
        down.fix();
        edges.due("twelve, one after another", down.cancel(0), 12);
        edges.due("nobody is left", down.company(3), 0);
        edges.due("eleven left by another", down.count(13), 11);
        edges.due("one cancelled", down.count(12), 1);
        StableParty up = Edges.full();
        for (int guest = 0; guest < 11; guest++) {
            Checks.condition(up, guest, "" + (char) ('b' + guest));
        }
        up.fix();
        edges.due("twelve, the other way", up.cancel(11), 12);
        StableParty middle = Edges.party("b", "c", "d", "*", "c");
        middle.fix();
        edges.due("those behind are left", middle.cancel(1), 2);
        edges.due("so c, d, and e", middle.company(3), 28);
        edges.due("then all who want c", middle.cancel(2), 2);
        edges.due("so d", middle.company(3), 8);
        StableParty either = Edges.fixed(Edges.party("*", "a|#2", "#3"));
        edges.due("a greater set keeps them", either.cancel(0), 3);
        StableParty enough = Edges.fixed(Edges.party("*", "a|#2", "#2"));
        edges.due("just enough", enough.cancel(0), 1);
        edges.due("one too few", enough.cancel(1), 2);
    }

    private void feesDoNotCount() {
        edges.sentence("FIXING", "(fees do not count any more)");
        StableParty x = Checks.partyOf(2);
        x.setLimit(1, 5500);
        x.fix();
        edges.due("one leaves", x.cancel(0), 1);
        edges.due("the other one stays, whose limit is less than the fee of one", x.company(3), 2);
    }

    private void halfOfTheFee() {
        edges.sentence("FIXING", "each of these gets half of the fee back that was paid");
        StableParty x = onDay(11);
        x.setLimit(1, 50000);
        Checks.condition(x, 2, "a&b");
        x.fix();
        edges.due("all but the charges", x.cancel(0), 3);
        edges.due("half of 3834", x.guest(1, 6), 1917);
        edges.due("half of 3834, too", x.guest(2, 6), 1917);
        edges.due("all", x.count(10), 2 * 1917);
        StableParty free = Edges.party("*", "a");
        free.set(0, 0);
        free.set(1, 0);
        free.fix();
        free.cancel(0);
        edges.due("half of 0", free.count(10), 0);
        edges.due("but one left", free.count(13), 1);
    }

    private void roundedDown() {
        edges.sentence("FIXING", "(rounded down)");
        int[][] rows = {{1, 0}, {2, 1}, {3, 1}, {9998, 4999}, {9999, 4999}};
        for (int[] row : rows) {
            StableParty x = Edges.party("*", "a");
            x.set(0, 0);
            x.set(1, row[0]);
            x.fix();
            x.cancel(0);
            edges.due("half of " + row[0], x.guest(1, 6), row[1]);
        }
        StableParty each = Edges.party("*", "a", "a");
        each.set(0, 0);
        each.set(1, 1);
        each.fix();
        each.cancel(0);
        edges.due("for each one, not for all", each.count(10), 0);
    }

    private void nobodyMoves() {
        edges.sentence("FIXING", "Seats of those who left are empty; nobody moves.");
        StableParty x = Edges.fixed(Edges.party("*", "a", "*", "*"));
        x.cancel(0);
        int[] due = {NONE, NONE, 2, 3};
        for (int seat = 0; seat < 4; seat++) {
            edges.due("the seat " + seat, x.seat(seat), due[seat]);
            edges.due("the seat of " + seat, x.guest(seat, 7), due[seat]);
        }
        StableParty y = Edges.fixed(Edges.full());
        y.cancel(0);
        y.cancel(11);
        edges.due("the first seat", y.seat(0), NONE);
        edges.due("the last seat", y.seat(11), NONE);
        edges.due("the seat 10", y.seat(10), 10);
    }

    // ---- a company is dissolved

    private void dissolving() {
        nothingGivenBack();
        everythingCanBeChanged();
    }

    private void nothingGivenBack() {
        edges.sentence("FIXING", "A fixed company can be dissolved: nothing is given back, all seats are empty");
        StableParty x = Edges.fixed(Edges.full());
        edges.due("twelve", x.dissolve(), 12);
        edges.due("nothing back", x.count(10), 0);
        edges.due("what was paid stays", x.count(9), 12 * 1334);
        for (int seat = 0; seat < 12; seat++) {
            edges.due("the seat " + seat, x.seat(seat), NONE);
            edges.due("the seat of " + seat, x.guest(seat, 7), NONE);
        }
        StableParty y = Edges.fixed(Edges.party("*", "a"));
        y.cancel(0);
        edges.due("nobody is left", y.dissolve(), 0);
        edges.due("what was given back stays", y.count(10), 2750);
        edges.leavesAll("none is fixed", Edges::open, StableParty::dissolve, NOT_POSSIBLE);
        edges.leavesAll("a new party", StableParty::new, StableParty::dissolve, NOT_POSSIBLE);
    }

    private static StableParty dissolved() {
        StableParty x = Edges.fixedParty();
        x.dissolve();
        x.undo();
        x.undo();
        x.dissolve();
        return x;
    }

    private void everythingCanBeChanged() {
        edges.sentence("FIXING", "everything can be changed again");
        edges.acts("guests", EdgesOfHappeningsTest::dissolved, x -> x.addGuest(1, 1), 3);
        edges.acts("conditions", EdgesOfHappeningsTest::dissolved, x -> x.setCondition(0), 2);
        edges.acts("limits", EdgesOfHappeningsTest::dissolved, x -> x.setLimit(0, 1), 99999);
        edges.acts("weights", EdgesOfHappeningsTest::dissolved, x -> x.setWeight(0, 2), 1);
        edges.acts("invitations", EdgesOfHappeningsTest::dissolved, x -> x.invite(0, false), 2);
        int[] first = {10000, 500, 12, 10, 200};
        for (int what = 0; what < 5; what++) {
            int setting = what;
            edges.acts("the setting " + what, EdgesOfHappeningsTest::dissolved, x -> x.set(setting, 7), first[what]);
        }
        edges.acts("another company", EdgesOfHappeningsTest::dissolved, StableParty::fix, 3 * 3834);
    }
}
