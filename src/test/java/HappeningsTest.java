/** Promises 8 to 11: days, and companies that are fixed, fall apart and are dissolved. */
public final class HappeningsTest {
    private static final int UNKNOWN = StableParty.UNKNOWN;
    private static final int BAD_VALUE = StableParty.BAD_VALUE;
    private static final int NOT_POSSIBLE = StableParty.NOT_POSSIBLE;
    private static final int NONE = StableParty.NONE;
    private static final Checks checks = new Checks("HappeningsTest");

    public static void main(String[] args) {
        pass();
        fix();
        fixPaysCharges();
        fixTheChosen();
        fixNothing();
        fixAgain();
        cancel();
        cancelGivesHalfTheFee();
        cancelInRounds();
        cancelErrors();
        everybodyLeaves();
        dissolve();
        checks.finish();
    }

    /** Promise 8. */
    private static void pass() {
        StableParty x = new StableParty();
        checks.due("pass(0)", x.pass(0), BAD_VALUE);
        checks.due("pass(-1)", x.pass(-1), BAD_VALUE);
        checks.due("pass(61)", x.pass(61), BAD_VALUE);
        checks.due("pass of the greatest int", x.pass(Integer.MAX_VALUE), BAD_VALUE);
        checks.due("pass(1)", x.pass(1), 1);
        checks.due("pass(60)", x.pass(60), 61);
        for (int day = 121; day <= 961; day += 60) {
            checks.due("pass(60) again", x.pass(60), day);
        }
        checks.due("pass(39), one too many", x.pass(39), NOT_POSSIBLE);
        checks.due("the day stays", x.count(0), 961);
        checks.due("pass(38)", x.pass(38), 999);
        checks.due("pass(1) at the end", x.pass(1), NOT_POSSIBLE);
        checks.due("a bad value goes first", x.pass(61), BAD_VALUE);
        checks.due("undo", x.undo(), 3);
        checks.due("the day of before", x.count(0), 961);
        StableParty y = Checks.partyOf(1);
        y.fix();
        checks.due("days pass when fixed", y.pass(2), 2);
    }

    /** Promise 9. */
    private static void fix() {
        StableParty x = Checks.partyOf(4);
        x.invite(1, false);
        x.set(1, 501);
        checks.due("fix", x.fix(), 3 * (3334 + 501));
        checks.due("one is fixed", x.count(8), 1);
        checks.due("the company", x.company(3), 13);
        checks.due("companies so far", x.count(11), 1);
        checks.due("what a paid", x.guest(0, 5), 3835);
        checks.due("what b paid", x.guest(1, 5), 0);
        checks.due("what all paid", x.count(9), 11505);
        checks.due("the seat of a", x.guest(0, 7), 0);
        checks.due("the seat of b", x.guest(1, 7), NONE);
        checks.due("the seat of c", x.guest(2, 7), 1);
        checks.due("the seat of d", x.guest(3, 7), 2);
        checks.due("the seat 2", x.seat(2), 3);
        checks.due("the seat 3", x.seat(3), NONE);
        checks.due("fix when fixed", x.fix(), NOT_POSSIBLE);
        checks.due("undo", x.undo(), 3);
        checks.due("none is fixed", x.count(8), 0);
        checks.due("no seat", x.guest(0, 7), NONE);
    }

    private static void fixPaysCharges() {
        StableParty x = Checks.partyOf(3);
        x.pass(11);
        x.setLimit(0, 9999);
        Checks.condition(x, 0, "#2");
        x.invite(1, false);
        x.setLimit(2, 9998);
        checks.due("all charges", x.count(14), 800);
        checks.due("fix", x.fix(), 2 * 5500 + 400 + 200);
        checks.due("a paid the charges, too", x.guest(0, 5), 5900);
        checks.due("c paid the charges, too", x.guest(2, 5), 5700);
        checks.due("a's charges are 0 then", x.guest(0, 3), 0);
        checks.due("c's charges are 0 then", x.guest(2, 3), 0);
        checks.due("b's charges stay", x.guest(1, 3), 200);
        checks.due("all charges then", x.count(14), 200);
    }

    private static void fixTheChosen() {
        StableParty x = new StableParty();
        x.addGuest(99999, 1);
        x.addGuest(99999, 3);
        x.addGuest(99999, 2);
        x.set(2, 2);
        checks.due("the chosen one pays", x.fix(), 2 * 5500);
        checks.due("not the greatest one", x.company(3), 6);
        checks.due("the chosen one now", x.company(1), 6);
        checks.due("the greatest one now", x.company(0), 7);
        x.dissolve();
        x.set(0, 0);
        x.set(1, 0);
        checks.due("a fee of 0", x.fix(), 0);
        checks.due("is paid, and one is fixed", x.count(8), 1);
    }

    private static void fixNothing() {
        StableParty x = Checks.partyOf(2);
        Checks.condition(x, 0, "b");
        Checks.condition(x, 1, "a");
        x.set(2, 1);
        checks.due("none finds a place", x.fix(), NONE);
        checks.due("none is fixed", x.count(8), 0);
        checks.due("no company so far", x.count(11), 0);
        checks.due("nothing is recorded", x.count(15), 4);
        x.set(2, 2);
        checks.due("both find a place", x.fix(), 11000);
    }

    private static void fixAgain() {
        StableParty x = Checks.partyOf(2);
        x.fix();
        x.cancel(0);
        x.dissolve();
        x.invite(1, false);
        checks.due("fix the other one", x.fix(), 10500);
        checks.due("what a paid so far", x.guest(0, 5), 5500 + 10500);
        checks.due("what b paid so far", x.guest(1, 5), 5500);
        checks.due("what all paid so far", x.count(9), 21500);
        checks.due("companies so far", x.count(11), 2);
        checks.due("cancellations so far", x.count(12), 1);
        checks.due("only a is in it", x.company(3), 1);
        checks.due("b has no seat", x.guest(1, 7), NONE);
        checks.due("a can cancel", x.cancel(0), 1);
        checks.due("cancellations then", x.count(12), 2);

        StableParty y = Checks.partyOf(2);
        Checks.condition(y, 1, "a");
        y.fix();
        y.cancel(0);
        y.dissolve();
        y.set(0, 1000);
        checks.due("fix for less", y.fix(), 2000);
        y.cancel(0);
        checks.due("what b got back so far", y.guest(1, 6), 2750 + 500);
        checks.due("what all got back so far", y.count(10), 3250);
        checks.due("followers so far", y.count(13), 2);
        checks.due("cancellations so far", y.count(12), 2);
    }

    /** Promise 10. */
    private static void cancel() {
        StableParty x = Checks.partyOf(4);
        checks.due("none is fixed", x.cancel(0), NOT_POSSIBLE);
        x.fix();
        checks.due("cancel", x.cancel(1), 1);
        checks.due("who are left", x.company(3), 13);
        checks.due("still fixed", x.count(8), 1);
        checks.due("the seat is empty", x.seat(1), NONE);
        checks.due("no seat any more", x.guest(1, 7), NONE);
        checks.due("nobody moves", x.seat(2), 2);
        checks.due("nobody moves either", x.guest(3, 7), 3);
        checks.due("nothing back", x.guest(1, 6), 0);
        checks.due("what was paid stays", x.guest(1, 5), 3000);
        checks.due("nobody else left", x.count(13), 0);
        checks.due("cancellations", x.count(12), 1);
        checks.due("not any more in it", x.cancel(1), NOT_POSSIBLE);
        checks.due("still invited", x.guest(1, 2), 1);
        checks.due("the greatest one is as it was", x.company(0), 15);
    }

    private static void cancelGivesHalfTheFee() {
        StableParty x = Checks.partyOf(3);
        x.set(1, 501);
        x.pass(20);
        Checks.condition(x, 1, "a");
        x.setLimit(2, 3836);
        checks.due("fix", x.fix(), 3 * 3835 + 400);
        checks.due("b leaves, too", x.cancel(0), 2);
        checks.due("half the fee, rounded down, not of the charges", x.guest(1, 6), 1917);
        checks.due("the one who cancels gets nothing", x.guest(0, 6), 0);
        checks.due("fees do not count any more", x.company(3), 4);
        checks.due("who stays gets nothing", x.guest(2, 6), 0);
        checks.due("the last one cancels", x.cancel(2), 1);
        checks.due("and gets nothing", x.guest(2, 6), 0);
        checks.due("all that was given back", x.count(10), 1917);
        checks.due("all that was paid", x.count(9), 11905);
    }

    private static void cancelInRounds() {
        StableParty x = Checks.partyOf(6);
        Checks.condition(x, 5, "a");
        Checks.condition(x, 4, "f");
        Checks.condition(x, 3, "#4&2:def");
        Checks.condition(x, 1, "d|*");
        Checks.condition(x, 2, "b");
        checks.due("fix", x.fix(), 6 * 2167);
        checks.due("f, then e, then d", x.cancel(0), 4);
        checks.due("b and c are left", x.company(3), 6);
        checks.due("followers so far", x.count(13), 3);
        checks.due("cancellations so far", x.count(12), 1);
        checks.due("all given back", x.count(10), 3 * 1083);
        checks.due("d got half", x.guest(3, 6), 1083);
        checks.due("d's seat is empty", x.seat(3), NONE);
        checks.due("c's seat", x.seat(2), 2);
        checks.due("c follows b", x.cancel(1), 2);
        checks.due("followers so far", x.count(13), 4);
        checks.due("cancellations so far", x.count(12), 2);
        checks.due("all given back then", x.count(10), 4 * 1083);
        checks.due("nobody is left, but it is fixed", x.company(3), 0);
    }

    private static void cancelErrors() {
        StableParty x = Checks.partyOf(3);
        checks.due("cancel(3) when none is fixed", x.cancel(3), UNKNOWN);
        x.invite(2, false);
        x.fix();
        int states = x.count(15);
        checks.due("cancel(-1)", x.cancel(-1), UNKNOWN);
        checks.due("cancel(3)", x.cancel(3), UNKNOWN);
        checks.due("cancel(32)", x.cancel(32), UNKNOWN);
        checks.due("a guest who is not in it", x.cancel(2), NOT_POSSIBLE);
        checks.due("nothing is recorded", x.count(15), states);
        checks.due("no cancellation", x.count(12), 0);
        x.dissolve();
        checks.due("dissolved", x.cancel(0), NOT_POSSIBLE);
    }

    private static void everybodyLeaves() {
        StableParty x = Checks.partyOf(12);
        for (int guest = 0; guest < 12; guest++) {
            Checks.condition(x, guest, "#12");
        }
        checks.due("fix of all", x.fix(), 12 * (834 + 500));
        checks.due("all leave", x.cancel(11), 12);
        checks.due("still fixed", x.count(8), 1);
        checks.due("nobody is left", x.company(3), 0);
        checks.due("half of 1334 for 11", x.count(10), 11 * 667);
        checks.due("cannot be fixed", x.fix(), NOT_POSSIBLE);
        checks.due("cannot be changed", x.setLimit(0, 1), NOT_POSSIBLE);
        checks.due("dissolve it", x.dissolve(), 0);
        checks.due("not fixed", x.company(3), NONE);
        StableParty y = Checks.partyOf(12);
        for (int guest = 1; guest < 12; guest++) {
            Checks.condition(y, guest, "" + (char) ('a' + guest - 1));
        }
        y.fix();
        checks.due("one after another", y.cancel(0), 12);
        checks.due("followers", y.count(13), 11);
    }

    /** Promise 11. */
    private static void dissolve() {
        StableParty x = Checks.partyOf(3);
        checks.due("none is fixed", x.dissolve(), NOT_POSSIBLE);
        checks.due("nothing is recorded", x.count(15), 3);
        x.fix();
        x.cancel(1);
        checks.due("dissolve", x.dissolve(), 2);
        checks.due("none is fixed", x.count(8), 0);
        checks.due("no company", x.company(3), NONE);
        for (int seat = 0; seat < 12; seat++) {
            checks.due("seat(" + seat + ")", x.seat(seat), NONE);
        }
        checks.due("no seat for a", x.guest(0, 7), NONE);
        checks.due("nothing is given back", x.count(10), 0);
        checks.due("what was paid stays", x.count(9), 3 * 3834);
        checks.due("dissolve again", x.dissolve(), NOT_POSSIBLE);
        checks.due("undo", x.undo(), 3);
        checks.due("the company of before", x.company(3), 5);
        checks.due("the seats of before", x.seat(2), 2);
    }
}
