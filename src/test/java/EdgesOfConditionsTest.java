import java.io.IOException;

/** The boundary cases of the terms GUESTS, CONDITIONS and TEXTS, sentence by sentence. */
public final class EdgesOfConditionsTest {
    private static final int BAD_VALUE = StableParty.BAD_VALUE;
    private static final int FULL = StableParty.FULL;
    private static final int UNKNOWN = StableParty.UNKNOWN;
    private static final int NONE = StableParty.NONE;
    private static final String[] LETTERS = {"a", "b", "c", "d", "e", "f", "g", "h", "i", "j", "k", "l"};
    private static final int ALL = 4095;

    private final Edges edges = new Edges("EdgesOfConditionsTest");

    private EdgesOfConditionsTest() throws IOException {
    }

    public static void main(String[] args) throws IOException {
        EdgesOfConditionsTest test = new EdgesOfConditionsTest();
        test.guests();
        test.conditions();
        test.texts();
        test.edges.finish();
    }

    // ---- GUESTS

    private void guests() {
        atMostTwelveGuests();
        lettersOfGuests();
        limitsOfGuests();
        weightsOfGuests();
        invitedAtFirst();
        chargesAtFirst();
        setsAsBits();
    }

    private void atMostTwelveGuests() {
        edges.sentence("GUESTS", "There are at most 12 guests, numbered from 0");
        StableParty x = new StableParty();
        edges.due("no guest at first", x.count(1), 0);
        edges.due("no guest 0", x.guest(0, 0), UNKNOWN);
        for (int number = 0; number < 12; number++) {
            edges.due("the number " + number, x.addGuest(number, 1), number);
            edges.due("is there", x.guest(number, 0), number);
            edges.due("the next one is not", x.guest(number + 1, 0), UNKNOWN);
        }
        edges.due("count", x.count(1), 12);
        edges.leavesAll("the 13th guest", Edges::full, y -> y.addGuest(1, 1), FULL);
    }

    private void lettersOfGuests() {
        edges.sentence("GUESTS",
                "the guest k has the letter of this place in the alphabet (a for 0, up to l for 11)");
        for (int guest = 0; guest < 12; guest++) {
            StableParty x = Edges.full();
            edges.due(LETTERS[guest], Checks.condition(x, 5, LETTERS[guest]), 1);
            edges.due(LETTERS[guest] + " as bits", x.guest(5, 4), 1 << guest);
            StableParty y = Checks.partyOf(Math.max(guest, 1));
            int due = guest == 0 ? 1 : BAD_VALUE;
            edges.due(LETTERS[guest] + " of the next guest", Checks.condition(y, 0, LETTERS[guest]), due);
        }
        char[] others = {'m', 'n', 'z', '`', '{', 'A', 'B', 'L', 'M', '@', (char) ('a' + 256),
            (char) ('l' + 256), (char) ('a' + 128), (char) ('a' - 32), 0, 65535};
        for (char other : others) {
            StableParty x = Edges.full();
            edges.due("no letter is the character " + (int) other, Checks.condition(x, 0, "" + other), -100);
        }
    }

    private void limitsOfGuests() {
        edges.sentence("GUESTS", "A guest has a limit (0 to 99999 cents)");
        StableParty x = new StableParty();
        edges.due("the least", x.addGuest(0, 1), 0);
        edges.due("is told", x.guest(0, 0), 0);
        edges.due("the greatest", x.addGuest(99999, 1), 1);
        edges.due("is told", x.guest(1, 0), 99999);
        edges.leavesAll("beyond the least", Edges::open, y -> y.addGuest(-1, 1), BAD_VALUE);
        edges.leavesAll("beyond the greatest", Edges::open, y -> y.addGuest(100000, 1), BAD_VALUE);
        x.set(0, 0);
        x.set(1, 0);
        edges.due("a limit of 0 is enough for a fee of 0", x.stable(1), 1);
        x.set(1, 1);
        edges.due("but not for a fee of 1", x.stable(1), 0);
    }

    private void weightsOfGuests() {
        edges.sentence("GUESTS", "a weight (1 to 9)");
        StableParty x = new StableParty();
        edges.due("the least", x.addGuest(1, 1), 0);
        edges.due("is told", x.guest(0, 1), 1);
        edges.due("the greatest", x.addGuest(1, 9), 1);
        edges.due("is told", x.guest(1, 1), 9);
        edges.leavesAll("beyond the least", Edges::open, y -> y.addGuest(1, 0), BAD_VALUE);
        edges.leavesAll("beyond the greatest", Edges::open, y -> y.addGuest(1, 10), BAD_VALUE);
    }

    private void invitedAtFirst() {
        edges.sentence("GUESTS", "is invited or not (at first invited)");
        StableParty x = Edges.full();
        edges.due("all twelve", x.count(2), 12);
        for (int guest = 0; guest < 12; guest++) {
            edges.due("the guest " + guest, x.guest(guest, 2), 1);
            edges.due("taken back", x.invite(guest, false), 11 - guest);
            edges.due("not invited", x.guest(guest, 2), 0);
        }
        edges.due("nobody", x.count(2), 0);
        StableParty y = Checks.partyOf(1);
        y.addGuest(1, 1);
        y.invite(1, false);
        y.undo();
        y.undo();
        y.addGuest(2, 2);
        edges.due("a new guest with a number that was taken before", y.guest(1, 2), 1);
    }

    private void chargesAtFirst() {
        edges.sentence("GUESTS", "and has charges (at first 0)");
        StableParty x = new StableParty();
        x.set(3, 0);
        x.pass(60);
        x.addGuest(1, 1);
        edges.due("also late", x.guest(0, 3), 0);
        x.setLimit(0, 2);
        x.undo();
        x.undo();
        x.addGuest(1, 1);
        edges.due("also in the place of one who was charged", x.guest(0, 3), 0);
    }

    private void setsAsBits() {
        edges.sentence("GUESTS",
                "Sets of guests are told as bits: 1 for the guest 0, 2 for 1, 4 for 2, and so on.");
        for (int guest = 0; guest < 12; guest++) {
            StableParty x = Edges.full();
            edges.due("all", x.company(0), ALL);
            x.invite(guest, false);
            edges.due("all but the guest " + guest, x.company(0), ALL - (1 << guest));
            edges.due("only the guest " + guest, x.met(0, 1 << guest), 1);
        }
        edges.due("nobody", new StableParty().company(0), 0);
    }

    // ---- CONDITIONS

    private void conditions() {
        partsOfConditions();
        atomsOfParts();
        theStar();
        lettersAsAtoms();
        digitsOfGroups();
        guestsOfGroups();
        lettersThatStandTwice();
        numbersOfGuests();
        conditionsInBrackets();
        greaterSetsMeetMore();
        eightBracketsOpen();
        theFirstCondition();
    }

    /** The condition, given to the guest 0 of twelve, is met by these sets, and not by those. */
    private void met(String condition, int[] by, int[] notBy) {
        StableParty x = Edges.full();
        edges.due("whether \"" + condition + "\" has a fault",
                Checks.condition(x, 0, condition) < 0 ? 1 : 0, 0);
        for (int set : by) {
            edges.due("\"" + condition + "\" by " + set, x.met(0, set), 1);
        }
        for (int set : notBy) {
            edges.due("\"" + condition + "\" by " + set, x.met(0, set), 0);
        }
    }

    private void fault(String condition, int at) {
        StableParty x = Edges.full();
        edges.due("the fault of \"" + condition + "\"", Checks.condition(x, 0, condition), -100 - at);
    }

    private static int[] sets(int... sets) {
        return sets;
    }

    private void partsOfConditions() {
        edges.sentence("CONDITIONS",
                "It is one or more parts with \"|\" between two, and is met if any of its parts is");
        met("c", sets(4, ALL), sets(0, ALL - 4));
        met("c|d", sets(4, 8, 12), sets(0, ALL - 12));
        met("c|d|e", sets(4, 8, 16), sets(0, ALL - 28));
        met("c|d&e", sets(4, 24), sets(0, 8, 16));
        met("c&d|e", sets(12, 16), sets(0, 4, 8));
        met("c&d|e&f", sets(12, 48), sets(0, 4 + 16, 8 + 32, 4 + 32));
        met(Edges.repeated("a|", 58) + "b", sets(1, 2), sets(0, ALL - 3));
        met("b|" + Edges.repeated("a|", 56) + "a", sets(1, 2), sets(0, ALL - 3));
        fault("|a", 0);
        fault("a|", 2);
        fault("a||b", 2);
        fault("(a|)", 3);
        fault("(|a)", 1);
    }

    private void atomsOfParts() {
        edges.sentence("CONDITIONS",
                "a part is one or more atoms with \"&\" between two, and is met if all its atoms are");
        met("c&d", sets(12), sets(0, 4, 8, ALL - 4, ALL - 8));
        met("c&d&e", sets(28), sets(ALL - 4, ALL - 8, ALL - 16));
        met(Edges.repeated("a&", 58) + "b", sets(3), sets(1, 2, ALL - 1, ALL - 2));
        met("b&" + Edges.repeated("a&", 56) + "a", sets(3), sets(1, 2, ALL - 1, ALL - 2));
        fault("&a", 0);
        fault("a&", 2);
        fault("a&&b", 2);
        fault("a&|b", 2);
        fault("a|&b", 2);
        fault("(a&)", 3);
        fault("(&a)", 1);
        fault("ab", 1);
        fault("a(b)", 1);
        fault("(a)b", 3);
        fault("(a)(b)", 3);
    }

    private void theStar() {
        edges.sentence("CONDITIONS", "\"*\", which is always met");
        met("*", sets(0, 1, 2048, ALL), sets());
        met("*&a", sets(1), sets(0));
        met("*|a", sets(0, 1), sets());
        StableParty x = Checks.partyOf(1);
        edges.due("no letter stands in it", Checks.condition(x, 0, "*"), 0);
        edges.due("no bit either", x.guest(0, 4), 0);
        fault("**", 1);
        fault("*a", 1);
        fault("a*", 1);
    }

    private void lettersAsAtoms() {
        edges.sentence("CONDITIONS", "a letter (a to l), which is met if this guest is in the set");
        for (int guest = 0; guest < 12; guest++) {
            met(LETTERS[guest], sets(1 << guest, ALL), sets(0, ALL - (1 << guest)));
        }
        fault("m", 0);
        fault("`", 0);
        fault("a&m", 2);
        fault("A", 0);
        fault("L", 0);
        StableParty x = Edges.party("a", "b");
        edges.due("one's own letter", x.met(0, 1), 1);
        x.invite(1, false);
        edges.due("one who is not invited", x.met(1, 2), 1);
    }

    private void digitsOfGroups() {
        edges.sentence("CONDITIONS", "a digit n from 1 to 9");
        for (int n = 1; n <= 9; n++) {
            int lowest = (1 << n) - 1;
            int highest = lowest << 12 - n;
            met(n + ":abcdefghijkl", sets(lowest, highest), sets(0, lowest & ~1, highest & ~2048));
        }
        fault("0:a", 0);
        fault("/:a", 0);
        fault("::a", 0);
        fault("10:abcdefghij", 1);
        fault("99:a", 1);
        fault("1", 1);
        fault("9", 1);
        fault("" + (char) ('1' + 256) + ":a", 0);
        fault("" + (char) 1633 + ":a", 0);
    }

    private void guestsOfGroups() {
        edges.sentence("CONDITIONS",
                "\":\" and one or more letters: met if at least n of these guests are in the set");
        met("1:a", sets(1), sets(0, ALL - 1));
        met("1:l", sets(2048), sets(0, ALL - 2048));
        met("1:al", sets(1, 2048), sets(0, ALL - 2049));
        met("2:al", sets(2049), sets(1, 2048, ALL - 1, ALL - 2048));
        met("2:abl", sets(3, 2049, 2050, 2051), sets(1, 2, 2048, ALL - 3, ALL - 2049));
        met("3:abl", sets(2051), sets(3, 2049, 2050));
        met("4:abl", sets(), sets(ALL));
        met("9:a", sets(), sets(ALL));
        met("9:bcdefghij", sets(1022), sets(ALL - 2, ALL - 512));
        fault("3:", 2);
        fault("3:m", 2);
        fault("3:am", 3);
        fault("3:*", 2);
        fault("3:1", 2);
        fault("3:(a)", 2);
        fault("3:#1", 2);
        fault("3::a", 2);
        fault("3;a", 1);
        fault("3a", 1);
        fault("3:&a", 2);
        fault("3:a:b", 3);
        fault("3:a*", 3);
        fault("3:a1:b", 3);
        fault("3:a#1", 3);
        fault("3:a(", 3);
    }

    private void lettersThatStandTwice() {
        edges.sentence("CONDITIONS", "(a letter that stands twice counts once)");
        met("2:aa", sets(), sets(1, ALL));
        met("2:aab", sets(3), sets(1, 2));
        met("2:baa", sets(3), sets(1, 2));
        met("2:" + Edges.repeated("a", 57) + "l", sets(2049), sets(1, 2048));
        met("1:aa", sets(1), sets(0, 2));
        StableParty x = Edges.full();
        edges.due("for the number of letters, too", Checks.condition(x, 0, "2:aab&a|b"), 2);
    }

    private void numbersOfGuests() {
        edges.sentence("CONDITIONS", "\"#\" and a number from 1 to 12 (without a zero in front): "
                + "met if the set has at least so many guests");
        for (int n = 1; n <= 12; n++) {
            int lowest = (1 << n) - 1;
            int highest = lowest << 12 - n;
            met("#" + n, sets(lowest, highest, ALL), sets(0, lowest & ~1, highest & ~2048));
            met("#" + n + "&#1", sets(lowest, highest), sets(lowest & ~1, highest & ~2048));
        }
        fault("#", 1);
        fault("#0", 1);
        fault("#00", 1);
        fault("#01", 1);
        fault("#012", 1);
        fault("#13", 2);
        fault("#14", 2);
        fault("#19", 2);
        fault("#20", 2);
        fault("#21", 2);
        fault("#99", 2);
        fault("#100", 3);
        fault("#110", 3);
        fault("#120", 3);
        fault("#123", 3);
        fault("#-1", 1);
        fault("#a", 1);
        fault("#*", 1);
        fault("##1", 1);
        fault("#1#2", 2);
        fault("#1a", 2);
        fault("#12a", 3);
        fault("#/", 1);
        fault("#:", 1);
        fault("#1/", 2);
        fault("#" + (char) ('1' + 256), 1);
        fault("#1" + (char) ('1' + 256), 2);
    }

    private void conditionsInBrackets() {
        edges.sentence("CONDITIONS", "\"(\", a condition, \")\"");
        met("(c)", sets(4), sets(0, ALL - 4));
        met("(c|d)&e", sets(20, 24), sets(4, 8, 12, 16));
        met("e&(c|d)", sets(20, 24), sets(4, 8, 12, 16));
        met("(c|d)&(e|f)", sets(20, 24, 36, 40), sets(12, 48));
        met("(c&d)|e", sets(12, 16), sets(4, 8));
        met("((c))", sets(4), sets(0));
        met("a|(b)&c", sets(1, 6), sets(2, 4));
        met("a&(b)|c", sets(3, 4), sets(1, 2));
        met("(a|(b)&c)&d", sets(9, 14), sets(8, 10, 12, 7));
        met("a|(b|(c)&d)&e", sets(1, 18, 28), sets(2, 12, 20, 24));
        met("a&(b|(c&d|(e)))", sets(3, 13, 17), sets(1, 5, 9, 30));
        met("(*)", sets(0), sets());
        met("(#12)", sets(ALL), sets(ALL - 1));
        met("(2:ab)", sets(3), sets(1));
        fault("(", 1);
        fault(")", 0);
        fault("()", 1);
        fault("(a", 2);
        fault("a)", 1);
        fault("(a))", 3);
        fault("((a)", 4);
        fault("(a)&", 4);
        fault("(#)", 2);
        fault("(2:)", 3);
        fault("(2)", 2);
        fault("[a]", 0);
        fault("(#1)2", 4);
        fault("(#1)0", 4);
        fault("(2:a)b", 5);
        fault("(a)1:b", 3);
        fault("(a)*", 3);
        fault("(a)#1", 3);
    }

    private void greaterSetsMeetMore() {
        edges.sentence("CONDITIONS", "So a greater set always meets what a smaller one in it meets.");
        String[] conditions = {"a&b|c&d", "#2|a", "2:abc&d|#3", "(a|#2)&(b|2:acd)", "*", "#4", "3:abd|c"};
        for (String condition : conditions) {
            StableParty x = Edges.party(condition, "*", "*", "*");
            for (int set = 0; set < 16; set++) {
                for (int guest = 0; guest < 4; guest++) {
                    int isLess = x.met(0, set | 1 << guest) < x.met(0, set) ? 1 : 0;
                    edges.due("\"" + condition + "\" by " + set + ", but not with " + guest, isLess, 0);
                }
            }
        }
    }

    private void eightBracketsOpen() {
        edges.sentence("CONDITIONS", "At most 8 brackets are open at a time.");
        met("((((((((a))))))))", sets(1), sets(0));
        fault("(((((((((a)))))))))", 8);
        fault("(((((((((", 8);
        fault("((((((((", 8);
        fault("((((((((a", 9);
        fault("((((((((a)))))))", 16);
        met("((((((((a))))))))&((((((((b))))))))", sets(3), sets(1, 2));
        fault("((((((((a))))))))&(((((((((b))))))))", 26);
        met("((((((((a)|(b))))))))", sets(1, 2), sets(0));
        fault("((((((((a)|((b)))))))))", 12);
        fault("((((((((a|(b)))))))))", 10);
        StableParty x = Edges.full();
        edges.due("a text that ends with 8 open", Checks.condition(x, 0, "(((((((("), -108);
        edges.due("leaves none open for the next one", Checks.condition(x, 0, "((((((((a))))))))"), 1);
        edges.due("a fault with 8 open", Checks.condition(x, 0, "((((((((?"), -108);
        edges.due("leaves none open either", Checks.condition(x, 0, "a"), 1);
        edges.due("so none can be closed", Checks.condition(x, 0, "a)"), -101);
        edges.due("a fault within a group", Checks.condition(x, 0, "(3:ab?"), -105);
        edges.due("does not go on in the next one", Checks.condition(x, 0, "c"), 1);
        edges.due("of which only that counts", x.guest(0, 4), 4);
        edges.due("met by that", x.met(0, 4), 1);
        edges.due("not by another", x.met(0, 3), 0);
        met("((((((((a)&b)|c)&d)|e)&f)|g)&h)", sets(128 + 64, 128 + 32 + 16, 128 + 32 + 8 + 4,
                128 + 32 + 8 + 3), sets(127, 128 + 32 + 8 + 1, 128 + 32 + 8 + 2, 128 + 32 + 4, 128 + 16));
    }

    private void theFirstCondition() {
        edges.sentence("CONDITIONS", "The condition of a guest is \"*\" at first.");
        StableParty x = Edges.full();
        for (int guest = 0; guest < 12; guest++) {
            edges.due("met by nobody", x.met(guest, 0), 1);
            edges.due("no letter", x.guest(guest, 4), 0);
        }
        StableParty y = Checks.partyOf(1);
        y.addGuest(1, 1);
        Checks.condition(y, 1, "a&b&#2");
        y.undo();
        y.undo();
        y.addGuest(1, 1);
        edges.due("also in the place of one who had another", y.met(1, 0), 1);
        edges.due("without letters", y.guest(1, 4), 0);
    }

    // ---- TEXTS

    private void texts() {
        textOfSixty();
        emptyAtFirst();
        faultOfFirstCharacter();
        faultOfNinthBracket();
        faultOfThirteen();
        faultOfTextThatEnds();
        faultOfEmptyText();
    }

    private static StableParty withText(String text) {
        StableParty x = Edges.openWithRoom();
        Checks.write(x, text);
        return x;
    }

    private void textOfSixty() {
        edges.sentence("TEXTS", "There is a text of at most 60 characters");
        StableParty x = Edges.full();
        for (int length = 1; length <= 60; length++) {
            edges.due("the character " + length, x.type(length % 2 == 1 ? 'b' : '|'), length);
        }
        edges.due("the character 61", x.type('b'), FULL);
        edges.due("the text ends too early", x.setCondition(0), -160);
        String sixty = Edges.repeated("b&", 56) + "2:cb";
        edges.due("a condition of 60 characters", Checks.condition(x, 0, sixty), 2);
        edges.due("its length", x.count(16), 60);
        edges.due("its last character counts: without", x.met(0, 4), 0);
        edges.due("its last character counts: with", x.met(0, 6), 1);
        String letters = Edges.repeated("l|", 58) + "#2";
        edges.due("another one", Checks.condition(x, 0, letters), 1);
        edges.due("its last atom counts", x.met(0, 3), 1);
        edges.leavesAll("one more", () -> withText(sixty), y -> y.type('c'), FULL);
    }

    private void emptyAtFirst() {
        edges.sentence("TEXTS", "empty at first");
        StableParty x = Checks.partyOf(1);
        edges.due("its length", x.count(16), 0);
        edges.due("it has no condition", x.setCondition(0), -100);
        edges.due("the first character", x.type('a'), 1);
    }

    private void faultOfFirstCharacter() {
        edges.sentence("TEXTS", "The fault of the text, read as a condition, is the index, from 0, "
                + "of the first character that is not allowed at its place");
        fault("?", 0);
        fault(" ", 0);
        fault("a?", 1);
        fault("a?b??", 1);
        fault("a a", 1);
        fault("a&?|?", 2);
        fault(Edges.repeated("a&", 58) + "??", 58);
        fault(Edges.repeated("a&", 58) + "a?", 59);
        fault(Edges.repeated("a|", 58) + "||", 58);
        fault("a" + (char) 0, 1);
        fault("a" + (char) 65535, 1);
        fault("a" + (char) ('&' + 256) + "b", 1);
        fault("" + (char) ('*' + 256), 0);
        fault("" + (char) ('#' + 256) + "1", 0);
        fault("" + (char) ('(' + 256) + "a)", 0);
        fault("(a" + (char) (')' + 256), 2);
        fault("a" + (char) ('|' + 256) + "b", 1);
        fault("1" + (char) (':' + 256) + "b", 1);
    }

    private void faultOfNinthBracket() {
        edges.sentence("TEXTS", "(a ninth open \"(\" , and the 3 of \"#13\", too)");
        fault("(((((((((", 8);
        fault("(((((((((a", 8);
        fault("a&(((((((((", 10);
        fault("((((((((a)|(b)|((", 16);
    }

    private void faultOfThirteen() {
        edges.sentence("TEXTS", "and the 3 of \"#13\", too");
        fault("#13", 2);
        fault("a&#13", 4);
        fault("(#13)", 3);
        edges.due("but #12 has none", Checks.condition(Edges.full(), 0, "#12"), 0);
    }

    private void faultOfTextThatEnds() {
        edges.sentence("TEXTS", "or the length of the text if it ends too early");
        fault("(", 1);
        fault("#", 1);
        fault("a&", 2);
        fault("9:", 2);
        fault("(a", 2);
        fault(Edges.repeated("a&", 60), 60);
        fault(Edges.repeated("a|", 58) + "3:", 60);
        fault(Edges.repeated("a&", 58) + "(a", 60);
        fault("(" + Edges.repeated("a&", 58) + "a", 60);
    }

    private void faultOfEmptyText() {
        edges.sentence("TEXTS", "(the empty text does)");
        edges.leavesAll("a new party's text", () -> Checks.partyOf(1), x -> x.setCondition(0), -100);
        edges.leavesAll("a text that was emptied", () -> withText(""), x -> x.setCondition(0), -100);
        edges.due("also of a full party", Edges.full().setCondition(11), -100);
        edges.due("of no guest", new StableParty().setCondition(0), UNKNOWN);
        edges.due("NONE is another answer", NONE, -5);
    }
}
