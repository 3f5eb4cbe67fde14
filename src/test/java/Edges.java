import java.io.IOException;
import java.nio.file.Files;
import java.nio.file.Path;
import java.util.ArrayList;
import java.util.List;
import java.util.function.Supplier;
import java.util.function.ToIntFunction;

/**
 * Checks that are ordered by the sentences of the document: sentence() says which one those after it
 * are about, and looks whether it stands there, so that it can be found.
 */
final class Edges {
    static final int LEAST_INT = Integer.MIN_VALUE;
    static final int GREATEST_INT = Integer.MAX_VALUE;
    private static final Path DOCUMENT = Path.of("../shared/DOC.md");

    /** A call with one argument that is tried with several values. */
    interface Call {
        int on(StableParty party, int value);
    }

    private final Checks checks;
    private final List<String> document;
    private String sentence = "no sentence";

    Edges(String name) throws IOException {
        checks = new Checks(name);
        document = Files.exists(DOCUMENT) ? Files.readAllLines(DOCUMENT) : List.of();
        if (document.isEmpty()) {
            System.out.println(name + ": " + DOCUMENT + " is not there, the sentences are not looked up");
        }
    }

    void finish() {
        checks.finish();
    }

    /** The checks that follow are about these words in this part of the document. */
    void sentence(String part, String words) {
        sentence = part + ": " + words;
        if (!document.isEmpty()) {
            checks.due("whether this stands in the document: " + sentence,
                    textOf(part).contains(words) ? 1 : 0, 1);
        }
    }

    private String textOf(String part) {
        int from = 0;
        while (from < document.size() && !isHeading(document.get(from), part)) {
            from++;
        }
        StringBuilder text = new StringBuilder();
        for (int i = from + 1; i < document.size() && !isAnyHeading(document.get(i)); i++) {
            text.append(document.get(i)).append(' ');
        }
        return text.toString();
    }

    private static boolean isHeading(String line, String part) {
        return line.equals(part) || line.equals("## " + part) || line.startsWith("## " + part + ":");
    }

    private static boolean isAnyHeading(String line) {
        return line.startsWith("## ") || line.matches("[A-Z ]+");
    }

    void due(String what, long answer, long due) {
        checks.due("[" + sentence + "] " + what, answer, due);
    }

    /** A call that answers this and changes nothing. */
    void leavesAll(String what, Supplier<StableParty> made, ToIntFunction<StableParty> call, int due) {
        due(what, call.applyAsInt(made.get()), due);
        due(what + ": where something is changed", firstDifference(Story.of(made),
                Story.of(() -> after(made, call))), -1);
    }

    /** Values on either side of a range, and far out of it, are refused and change nothing. */
    void refusesBeyond(String what, int least, int most, Supplier<StableParty> made, Call call, int due) {
        List<Integer> values = new ArrayList<>(List.of(least - 1, most + 1, LEAST_INT, LEAST_INT + 1,
                LEAST_INT + most, GREATEST_INT, GREATEST_INT - most));
        for (int value : new int[] {-100000000, -65536, -4096, -256, -32, -5, -1, 32, 33, 64, 256, 4096,
            65536, 65537, 1 << 20, 100000000, 1 << 30}) {
            if (value < least || value > most) {
                values.add(value);
            }
        }
        for (int value : values) {
            leavesAll(what + " with " + value, made, x -> call.on(x, value), due);
        }
    }

    /** A call that answers this, and records the state that was before it. */
    void acts(String what, Supplier<StableParty> made, ToIntFunction<StableParty> call, int due) {
        StableParty x = made.get();
        int states = x.count(15);
        due(what, call.applyAsInt(x), due);
        due(what + ": the states in the history", x.count(15), Math.min(states + 1, 4));
        int left = x.count(15) - 1;
        due(what + ": undo()", x.undo(), left);
        if (states < 4) {
            due(what + ": where undo leaves something changed", firstDifference(Story.of(made),
                    Story.of(() -> undone(after(made, call)))), -1);
        }
    }

    private static StableParty after(Supplier<StableParty> made, ToIntFunction<StableParty> call) {
        StableParty x = made.get();
        call.applyAsInt(x);
        return x;
    }

    private static StableParty undone(StableParty x) {
        x.undo();
        return x;
    }

    private static int firstDifference(List<Integer> one, List<Integer> other) {
        for (int i = 0; i < one.size() && i < other.size(); i++) {
            if (!one.get(i).equals(other.get(i))) {
                return i;
            }
        }
        return one.size() == other.size() ? -1 : Math.min(one.size(), other.size());
    }

    // ---- parties

    /** A party whose guests have the limit 99999, the weight 1 and these conditions. */
    static StableParty party(String... conditions) {
        StableParty x = Checks.partyOf(conditions.length);
        for (int guest = 0; guest < conditions.length; guest++) {
            if (!conditions[guest].equals("*")) {
                Checks.condition(x, guest, conditions[guest]);
            }
        }
        return x;
    }

    static StableParty fixed(StableParty x) {
        x.fix();
        return x;
    }

    /** Three guests; a company was fixed and dissolved, charges were made; the history is full. */
    static StableParty open() {
        StableParty x = party("*", "a|#3", "*");
        x.setWeight(2, 4);
        x.fix();
        x.cancel(0);
        x.dissolve();
        x.keep();
        x.pass(11);
        x.setLimit(2, 8000);
        x.invite(1, false);
        x.invite(1, true);
        Checks.write(x, "b&c");
        return x;
    }

    /** The same with three states in the history, so that one more finds room. */
    static StableParty openWithRoom() {
        StableParty x = open();
        x.undo();
        return x;
    }

    /** The same with a company that is fixed, which the guest 2 has left. */
    static StableParty fixedParty() {
        StableParty x = fixed(open());
        x.cancel(2);
        return x;
    }

    /** The same before the guest 2 leaves, with three states in the history. */
    static StableParty fixedWithRoom() {
        StableParty x = fixedParty();
        x.undo();
        return x;
    }

    /** The same party, on this day. */
    static StableParty onDay(int day, StableParty x) {
        for (int left = day - x.count(0); left > 0; left -= 60) {
            x.pass(Math.min(60, left));
        }
        return x;
    }

    static StableParty full() {
        return Checks.partyOf(12);
    }

    /** Twelve guests, of whom everyone but the last one wants the next one; the last wants too many. */
    static StableParty chain() {
        StableParty x = full();
        for (int guest = 0; guest < 11; guest++) {
            Checks.condition(x, guest, "" + (char) ('b' + guest));
        }
        Checks.condition(x, 11, "2:a");
        return x;
    }

    /** The same characters again and again, as many as fit in so many characters. */
    static String repeated(String text, int length) {
        StringBuilder all = new StringBuilder();
        while (all.length() + text.length() <= length) {
            all.append(text);
        }
        return all.toString();
    }
}
