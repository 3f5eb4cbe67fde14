/**
 * Long runs of calls on the class and on the model, which must answer the same. The calls are drawn
 * by a counter of this file, so each run of the test is the same.
 */
public final class WalkTest {
    private static final int WALKS = 260;
    private static final int CALLS = 512;
    // A text is emptied, typed with one character more than it has room for, and given to a guest.
    private static final int MOST_CALLS_AT_ONCE = 63;
    private static final Checks checks = new Checks("WalkTest");

    private final StableParty party = new StableParty();
    private final Model model = new Model();
    private final int number;
    private final int wantedGuests;
    private long drawn;
    private int calls = 0;

    private WalkTest(int number) {
        this.number = number;
        this.drawn = number * 7919L + 17;
        this.wantedGuests = number % 10 == 0 ? 12 : 1 + draw(8);
    }

    public static void main(String[] args) {
        for (int number = 0; number < WALKS; number++) {
            new WalkTest(number).walk();
        }
        checks.finish();
    }

    private int draw(int below) {
        drawn = drawn * 6364136223846793005L + 1442695040888963407L;
        return (int) ((drawn >>> 33) % below);
    }

    private void due(String call, int answer, int due) {
        calls++;
        checks.due("walk " + number + ", call " + calls + ": " + call, answer, due);
    }

    private void walk() {
        while (calls + MOST_CALLS_AT_ONCE <= CALLS) {
            int kind = draw(20);
            if (kind < 3) {
                write();
            } else if (kind < 10) {
                change();
            } else if (kind < 12) {
                happen();
            } else if (kind == 12) {
                goBack();
            } else {
                ask();
            }
        }
        // What an object answers after so many calls is free.
        checks.due("walk " + number + ": whether it has too many calls", calls > CALLS ? 1 : 0, 0);
    }

    /** A guest, or sometimes a number that is nearly one. */
    private int someone() {
        return draw(12) == 0 ? draw(16) - 2 : draw(Math.max(1, model.count(1)));
    }

    private int someSet() {
        int all = 1 << model.count(1);
        return draw(10) == 0 ? draw(4200) - 50 : draw(all);
    }

    private int someLimit() {
        int[] odd = {-1, 0, 99999, 100000};
        int kind = draw(10);
        if (kind == 0) {
            return odd[draw(4)];
        }
        return kind < 4 ? draw(100000) : model.fee(1 + draw(12)) % 100000 + draw(3) - 1;
    }

    private void write() {
        due("clearText()", party.clearText(), model.clearText());
        String condition = draw(12) == 0 ? longCondition() : condition(draw(4));
        if (draw(4) == 0) {
            condition = spoil(condition);
        }
        for (int i = 0; i < condition.length() && i < 61; i++) {
            char c = condition.charAt(i);
            due("type('" + c + "')", party.type(c), model.type(c));
        }
        int guest = someone();
        due("setCondition(" + guest + ")", party.setCondition(guest), model.setCondition(guest));
    }

    private String longCondition() {
        StringBuilder text = new StringBuilder();
        while (text.length() < 56) {
            text.append(condition(2)).append(draw(2) == 0 ? '&' : '|');
        }
        return text.append(condition(0)).toString();
    }

    private String condition(int depth) {
        StringBuilder text = new StringBuilder(atom(depth));
        for (int more = draw(3); more > 0; more--) {
            text.append(draw(2) == 0 ? '&' : '|').append(atom(depth));
        }
        return text.toString();
    }

    private String atom(int depth) {
        switch (draw(depth > 0 ? 9 : 6)) {
            case 0: return draw(4) == 0 ? "*" : "#" + (1 + draw(12));
            case 1: return "#" + (1 + draw(4));
            case 2: return (1 + draw(3)) + ":" + letter() + letter() + letter();
            case 6: case 7: case 8: return "(" + condition(depth - 1) + ")";
            default: return letter();
        }
    }

    private String letter() {
        int guests = Math.max(1, model.count(1));
        return String.valueOf((char) ('a' + (draw(40) == 0 ? draw(13) : draw(guests))));
    }

    /** Puts in, takes out or changes a character, so that most texts have a fault. */
    private String spoil(String text) {
        String signs = "()|&#*:0123456789acklm ";
        StringBuilder spoiled = new StringBuilder(text);
        int place = draw(text.length());
        char sign = signs.charAt(draw(signs.length()));
        switch (draw(4)) {
            case 0: spoiled.insert(place, sign); break;
            case 1: spoiled.deleteCharAt(place); break;
            case 2: spoiled.insert(0, "((((((((".substring(draw(8))); break;
            default: spoiled.setCharAt(place, sign);
        }
        return spoiled.toString();
    }

    private void change() {
        int guest = someone();
        switch (draw(8)) {
            case 0: case 1: setSomething(); break;
            case 2: case 3: limit(guest, someLimit()); break;
            case 4: weight(guest, draw(11)); break;
            case 5: case 6: invite(guest, draw(3) != 0); break;
            default:
        }
        if (model.count(1) < wantedGuests || draw(30) == 0) {
            int limit = draw(3) == 0 ? someLimit() : 99999;
            int weight = draw(15) == 0 ? draw(12) : 1 + draw(9);
            due("addGuest(" + limit + ", " + weight + ")",
                    party.addGuest(limit, weight), model.addGuest(limit, weight));
        }
    }

    private void limit(int guest, int limit) {
        due("setLimit(" + guest + ", " + limit + ")",
                party.setLimit(guest, limit), model.setLimit(guest, limit));
    }

    private void weight(int guest, int weight) {
        due("setWeight(" + guest + ", " + weight + ")",
                party.setWeight(guest, weight), model.setWeight(guest, weight));
    }

    private void invite(int guest, boolean is) {
        due("invite(" + guest + ", " + is + ")", party.invite(guest, is), model.invite(guest, is));
    }

    private void setSomething() {
        int what = draw(20) == 0 ? draw(9) - 2 : draw(5);
        int[] most = {20000, 1000, 13, 30, 300};
        int value = draw(10) == 0 ? draw(110000) - 1 : draw(what >= 0 && what < 5 ? most[what] : 9);
        due("set(" + what + ", " + value + ")", party.set(what, value), model.set(what, value));
    }

    private void happen() {
        int guest = someone();
        switch (draw(6)) {
            case 0:
                int days = draw(5) == 0 ? draw(64) - 1 : 1 + draw(5);
                due("pass(" + days + ")", party.pass(days), model.pass(days));
                break;
            case 1: case 2:
                due("fix()", party.fix(), model.fix());
                due("cancel(" + guest + ")", party.cancel(guest), model.cancel(guest));
                break;
            case 3:
                due("cancel(" + guest + ")", party.cancel(guest), model.cancel(guest));
                break;
            default:
                due("dissolve()", party.dissolve(), model.dissolve());
        }
    }

    private void goBack() {
        switch (draw(4)) {
            case 0: due("keep()", party.keep(), model.keep()); break;
            case 1: due("restore()", party.restore(), model.restore()); break;
            default: due("undo()", party.undo(), model.undo());
        }
    }

    private void ask() {
        int guest = someone();
        int set = someSet();
        int what = draw(20) - 1;
        switch (draw(13)) {
            case 0: due("guest(" + guest + ", " + what % 10 + ")",
                    party.guest(guest, what % 10), model.guest(guest, what % 10)); break;
            case 1: due("met(" + guest + ", " + set + ")", party.met(guest, set), model.met(guest, set)); break;
            case 2: due("stable(" + set + ")", party.stable(set), model.stable(set)); break;
            case 3: due("fee(" + what + ")", party.fee(what), model.fee(what)); break;
            case 4: due("company(" + what % 6 + ")", party.company(what % 6), model.company(what % 6)); break;
            case 5: due("companies()", party.companies(), model.companies()); break;
            case 6: case 7:
                for (int answer = -1; answer < 6; answer++) {
                    due("why(" + guest + ", " + answer + ")", party.why(guest, answer), model.why(guest, answer));
                }
                break;
            case 8: due("rounds()", party.rounds(), model.rounds()); break;
            case 9: due("needs(" + guest + ")", party.needs(guest), model.needs(guest)); break;
            case 10: due("weightOf(" + guest + ")", party.weightOf(guest), model.weightOf(guest)); break;
            case 11:
                if (draw(3) == 0) {
                    due("leastLimit(" + guest + ")", party.leastLimit(guest), model.leastLimit(guest));
                }
                due("seat(" + what + ")", party.seat(what), model.seat(what));
                break;
            default: due("count(" + what + ")", party.count(what), model.count(what));
        }
    }
}
