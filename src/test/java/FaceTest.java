import java.io.IOException;
import java.lang.reflect.Constructor;
import java.lang.reflect.Field;
import java.lang.reflect.Method;
import java.lang.reflect.Modifier;
import java.nio.file.Files;
import java.nio.file.Path;
import java.util.Set;
import java.util.TreeSet;

/** The face of the class, the constants, a new object, and the words that LANGUAGE.md rules out. */
public final class FaceTest {
    private static final String[] METHODS = {
        "addGuest(int, int)", "setCondition(int)", "setLimit(int, int)", "setWeight(int, int)",
        "invite(int, boolean)", "set(int, int)", "pass(int)", "fix()", "cancel(int)", "dissolve()",
        "type(char)", "clearText()", "undo()", "keep()", "restore()", "guest(int, int)",
        "met(int, int)", "stable(int)", "fee(int)", "company(int)", "companies()", "why(int, int)",
        "rounds()", "needs(int)", "weightOf(int)", "leastLimit(int)", "seat(int)", "count(int)"};
    private static final String[] CONSTANTS = {
        "UNKNOWN", "BAD_VALUE", "FULL", "NOT_POSSIBLE", "NONE"};
    private static final String[] RULED_OUT = {
        "throw", "throws", "try", "catch", "finally", "synchronized", "assert", "import", "package",
        "protected", "native", "volatile", "transient", "double", "float", "Object", "Random",
        "System", "Thread", "Exception", "->", "::", "equals", "hashCode", "toString"};

    public static void main(String[] args) throws IOException {
        Checks checks = new Checks("FaceTest");
        constants(checks);
        members(checks);
        methodNames(checks);
        words(checks);
        newObject(checks);
        checks.finish();
    }

    private static void constants(Checks checks) {
        checks.due("UNKNOWN", StableParty.UNKNOWN, -1);
        checks.due("BAD_VALUE", StableParty.BAD_VALUE, -2);
        checks.due("FULL", StableParty.FULL, -3);
        checks.due("NOT_POSSIBLE", StableParty.NOT_POSSIBLE, -4);
        checks.due("NONE", StableParty.NONE, -5);
    }

    private static void members(Checks checks) {
        Set<String> visible = new TreeSet<>();
        for (Method method : StableParty.class.getDeclaredMethods()) {
            if (!Modifier.isPrivate(method.getModifiers())) {
                visible.add(asText(method));
                checks.due(method + " is public", asNumber(Modifier.isPublic(method.getModifiers())), 1);
                checks.due(method + " is of the object",
                        asNumber(!Modifier.isStatic(method.getModifiers())), 1);
                checks.due(method + " answers an int", asNumber(method.getReturnType() == int.class), 1);
            }
        }
        checks.due("the methods", asNumber(visible.equals(Set.of(METHODS))), 1);
        Set<String> fields = new TreeSet<>();
        for (Field field : StableParty.class.getDeclaredFields()) {
            if (!Modifier.isPrivate(field.getModifiers())) {
                fields.add(field.getName());
                checks.due(field + " is a constant", field.getModifiers(),
                        Modifier.PUBLIC | Modifier.STATIC | Modifier.FINAL);
            }
        }
        checks.due("the constants", asNumber(fields.equals(Set.of(CONSTANTS))), 1);
        Constructor<?>[] constructors = StableParty.class.getDeclaredConstructors();
        checks.due("the constructors", constructors.length, 1);
        checks.due("the constructor is public", constructors[0].getModifiers(), Modifier.PUBLIC);
        checks.due("the constructor takes nothing", constructors[0].getParameterCount(), 0);
        checks.due("the class is public and final", StableParty.class.getModifiers(),
                Modifier.PUBLIC | Modifier.FINAL);
    }

    private static void methodNames(Checks checks) {
        Set<String> names = new TreeSet<>();
        for (String method : METHODS) {
            names.add(method.substring(0, method.indexOf('(')));
        }
        for (Class<?> inside : StableParty.class.getDeclaredClasses()) {
            checks.due(inside + " is static", asNumber(Modifier.isStatic(inside.getModifiers())), 1);
            for (Method method : inside.getDeclaredMethods()) {
                checks.due(method + " has a name of its own", asNumber(names.contains(method.getName())), 0);
            }
        }
        for (Method method : StableParty.class.getDeclaredMethods()) {
            if (Modifier.isPrivate(method.getModifiers())) {
                checks.due(method + " has a name of its own", asNumber(names.contains(method.getName())), 0);
            }
        }
    }

    private static void words(Checks checks) throws IOException {
        String code = withoutComments(Files.readString(Path.of("src/main/java/StableParty.java")));
        for (String word : RULED_OUT) {
            boolean isSign = !Character.isLetter(word.charAt(0));
            String pattern = isSign ? word : "\\b" + word + "\\b";
            boolean stands = java.util.regex.Pattern.compile(pattern).matcher(code).find();
            checks.due("whether \"" + word + "\" stands in the code", asNumber(stands), 0);
        }
        boolean allAreSmall = code.chars().allMatch(c -> c < 128);
        checks.due("all signs are 1 to 127", asNumber(allAreSmall), 1);
    }

    private static String withoutComments(String code) {
        return code.replaceAll("(?s)/\\*.*?\\*/", "").replaceAll("//[^\\n]*", "");
    }

    private static String asText(Method method) {
        StringBuilder text = new StringBuilder(method.getName()).append('(');
        for (Class<?> type : method.getParameterTypes()) {
            text.append(text.charAt(text.length() - 1) == '(' ? "" : ", ").append(type.getName());
        }
        return text.append(')').toString();
    }

    private static int asNumber(boolean is) {
        return is ? 1 : 0;
    }

    /** Promise 1. */
    private static void newObject(Checks checks) {
        int[] due = {0, 0, 0, 10000, 500, 12, 10, 200, 0, 0, 0, 0, 0, 0, 0, 0, 0};
        StableParty party = new StableParty();
        for (int what = 0; what < due.length; what++) {
            checks.due("new: count(" + what + ")", party.count(what), due[what]);
        }
        checks.due("new: guest(0, 0)", party.guest(0, 0), StableParty.UNKNOWN);
        checks.due("new: company(0)", party.company(0), 0);
        checks.due("new: company(1)", party.company(1), 0);
        checks.due("new: company(2)", party.company(2), StableParty.NONE);
        checks.due("new: company(3)", party.company(3), StableParty.NONE);
        checks.due("new: companies()", party.companies(), 1);
        checks.due("new: rounds()", party.rounds(), 1);
        checks.due("new: fee(1)", party.fee(1), 10500);
        checks.due("new: undo()", party.undo(), StableParty.NONE);
        checks.due("new: restore()", party.restore(), StableParty.NONE);
        checks.due("new: fix()", party.fix(), StableParty.NONE);
        checks.due("new: dissolve()", party.dissolve(), StableParty.NOT_POSSIBLE);
        checks.due("new: seat(0)", party.seat(0), StableParty.NONE);
        checks.due("new: stable(0)", party.stable(0), 1);
        checks.due("new: stable(1)", party.stable(1), StableParty.BAD_VALUE);
        StableParty other = new StableParty();
        party.addGuest(1, 1);
        checks.due("new: another object's guests", other.count(1), 0);
    }
}
