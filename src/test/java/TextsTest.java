/** Promises 12 and 13: the text. */
public final class TextsTest {
    private static final Checks checks = new Checks("TextsTest");

    public static void main(String[] args) {
        type();
        clearText();
        textIsNoState();
        checks.finish();
    }

    /** Promise 12. */
    private static void type() {
        StableParty x = new StableParty();
        for (int i = 1; i <= 60; i++) {
            checks.due("type, the character " + i, x.type((char) (i * 1000)), i);
        }
        checks.due("type, the character 61", x.type('a'), StableParty.FULL);
        checks.due("type, the character 62", x.type('a'), StableParty.FULL);
        checks.due("the length", x.count(16), 60);
        checks.due("typing is no act", x.count(15), 0);
        StableParty y = Checks.partyOf(3);
        y.type('a');
        y.type('|');
        y.type('c');
        checks.due("what was typed is the text", y.setCondition(1), 2);
        checks.due("its letters", y.guest(1, 4), 5);
        y.type('&');
        y.type('b');
        checks.due("typed behind", y.setCondition(1), 3);
        checks.due("(a|c&b) with a", y.met(1, 1), 1);
        checks.due("(a|c&b) with c", y.met(1, 4), 0);
        checks.due("(a|c&b) with b and c", y.met(1, 6), 1);
    }

    /** Promise 13. */
    private static void clearText() {
        StableParty x = Checks.partyOf(2);
        checks.due("clearText of an empty text", x.clearText(), 0);
        x.type('a');
        x.type('b');
        checks.due("clearText", x.clearText(), 2);
        checks.due("the length then", x.count(16), 0);
        checks.due("the empty text has a fault", x.setCondition(0), -100);
        x.type('b');
        checks.due("only the new character is there", x.setCondition(0), 1);
        for (int i = 0; i < 70; i++) {
            x.type('a');
        }
        checks.due("clearText of a full text", x.clearText(), 60);
        checks.due("type again", x.type('a'), 1);
    }

    private static void textIsNoState() {
        StableParty x = Checks.partyOf(1);
        x.type('a');
        x.keep();
        x.type('&');
        x.addGuest(1, 1);
        x.type('a');
        x.undo();
        checks.due("the text stays when undone", x.count(16), 3);
        x.restore();
        checks.due("the text stays when restored", x.count(16), 3);
        checks.due("with its characters", x.setCondition(0), 1);
    }
}
