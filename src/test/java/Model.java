import java.util.ArrayDeque;
import java.util.ArrayList;
import java.util.Deque;
import java.util.List;

/**
 * The document once more, written for plainness and not for speed or room: stable companies are
 * all tried, conditions stay texts that are read again by recursion, states are copied whole.
 */
final class Model {
    static final int UNKNOWN = -1;
    static final int BAD_VALUE = -2;
    static final int FULL = -3;
    static final int NOT_POSSIBLE = -4;
    static final int NONE = -5;

    private static final class Person {
        int limit;
        int weight;
        boolean invited = true;
        int charges = 0;
        int paid = 0;
        int back = 0;
        int seat = NONE;
        String condition = "*";

        Person copy() {
            Person other = new Person();
            other.limit = limit;
            other.weight = weight;
            other.invited = invited;
            other.charges = charges;
            other.paid = paid;
            other.back = back;
            other.seat = seat;
            other.condition = condition;
            return other;
        }
    }

    private static final class World {
        final List<Person> people = new ArrayList<>();
        int[] settings = {10000, 500, 12, 10, 200};
        int day = 0;
        boolean fixed = false;
        int left = 0;
        int fixedFee = 0;
        int companies = 0;
        int cancellations = 0;
        int followers = 0;

        World copy() {
            World other = new World();
            for (Person person : people) {
                other.people.add(person.copy());
            }
            other.settings = settings.clone();
            other.day = day;
            other.fixed = fixed;
            other.left = left;
            other.fixedFee = fixedFee;
            other.companies = companies;
            other.cancellations = cancellations;
            other.followers = followers;
            return other;
        }
    }

    /** A text that is no condition, with the place of its fault. */
    static final class Fault extends Exception {
        private static final long serialVersionUID = 1L;
        final int place;

        Fault(int place) {
            this.place = place;
        }
    }

    private interface Condition {
        boolean isMet(int set);
    }

    /** Reads a condition by recursion. */
    private static final class Parser {
        private final String text;
        private int at = 0;
        private int letters = 0;

        Parser(String text) {
            this.text = text;
        }

        Condition whole() throws Fault {
            Condition condition = condition(0);
            if (at < text.length()) {
                throw new Fault(at);
            }
            return condition;
        }

        private Condition condition(int open) throws Fault {
            List<Condition> parts = new ArrayList<>();
            do {
                parts.add(part(open));
            } while (isNext("|"));
            return set -> parts.stream().anyMatch(part -> part.isMet(set));
        }

        private Condition part(int open) throws Fault {
            List<Condition> atoms = new ArrayList<>();
            do {
                atoms.add(atom(open));
            } while (isNext("&"));
            return set -> atoms.stream().allMatch(atom -> atom.isMet(set));
        }

        private Condition atom(int open) throws Fault {
            if (isNext("*")) {
                return set -> true;
            }
            if (isNext("#")) {
                int number = number();
                return set -> Integer.bitCount(set) >= number;
            }
            if (open < 8 && isNext("(")) {
                Condition inner = condition(open + 1);
                take(")");
                return inner;
            }
            if (at < text.length() && text.charAt(at) >= '1' && text.charAt(at) <= '9') {
                int least = text.charAt(at++) - '0';
                take(":");
                int among = letter();
                while (at < text.length() && isLetter(text.charAt(at))) {
                    among |= letter();
                }
                int all = among;
                return set -> Integer.bitCount(set & all) >= least;
            }
            int one = letter();
            return set -> (set & one) != 0;
        }

        private int number() throws Fault {
            for (String digits : new String[] {"12", "11", "10", "9", "8", "7", "6", "5", "4", "3", "2", "1"}) {
                if (isNext(digits)) {
                    return Integer.parseInt(digits);
                }
            }
            throw new Fault(at);
        }

        private int letter() throws Fault {
            if (at >= text.length() || !isLetter(text.charAt(at))) {
                throw new Fault(at);
            }
            int bit = 1 << text.charAt(at++) - 'a';
            letters |= bit;
            return bit;
        }

        private static boolean isLetter(char c) {
            return c >= 'a' && c <= 'l';
        }

        private boolean isNext(String sign) {
            boolean is = text.startsWith(sign, at);
            at += is ? sign.length() : 0;
            return is;
        }

        private void take(String sign) throws Fault {
            if (!isNext(sign)) {
                throw new Fault(at);
            }
        }
    }

    private World now = new World();
    private final Deque<World> history = new ArrayDeque<>();
    private World snapshot = null;
    private final StringBuilder text = new StringBuilder();

    private void record() {
        history.addLast(now.copy());
        if (history.size() > 4) {
            history.removeFirst();
        }
    }

    private boolean isUnknown(int guest) {
        return guest < 0 || guest >= now.people.size();
    }

    private void late(Person person) {
        if (now.day > now.settings[3]) {
            person.charges += now.settings[4];
        }
    }

    private static Condition read(String text) {
        try {
            return new Parser(text).whole();
        } catch (Fault fault) {
            throw new IllegalStateException(text);
        }
    }

    int addGuest(int limit, int weight) {
        if (limit < 0 || limit > 99999 || weight < 1 || weight > 9) {
            return BAD_VALUE;
        }
        if (now.fixed) {
            return NOT_POSSIBLE;
        }
        if (now.people.size() == 12) {
            return FULL;
        }
        record();
        Person person = new Person();
        person.limit = limit;
        person.weight = weight;
        now.people.add(person);
        return now.people.size() - 1;
    }

    int setCondition(int guest) {
        if (isUnknown(guest)) {
            return UNKNOWN;
        }
        Parser parser = new Parser(text.toString());
        try {
            parser.whole();
        } catch (Fault fault) {
            return -100 - fault.place;
        }
        if (parser.letters >= 1 << now.people.size()) {
            return BAD_VALUE;
        }
        if (now.fixed) {
            return NOT_POSSIBLE;
        }
        record();
        now.people.get(guest).condition = text.toString();
        late(now.people.get(guest));
        return Integer.bitCount(parser.letters);
    }

    int setLimit(int guest, int limit) {
        if (isUnknown(guest)) {
            return UNKNOWN;
        }
        if (limit < 0 || limit > 99999) {
            return BAD_VALUE;
        }
        if (now.fixed) {
            return NOT_POSSIBLE;
        }
        int old = now.people.get(guest).limit;
        if (old == limit) {
            return NONE;
        }
        record();
        now.people.get(guest).limit = limit;
        late(now.people.get(guest));
        return old;
    }

    int setWeight(int guest, int weight) {
        if (isUnknown(guest)) {
            return UNKNOWN;
        }
        if (weight < 1 || weight > 9) {
            return BAD_VALUE;
        }
        if (now.fixed) {
            return NOT_POSSIBLE;
        }
        int old = now.people.get(guest).weight;
        if (old == weight) {
            return NONE;
        }
        record();
        now.people.get(guest).weight = weight;
        return old;
    }

    int invite(int guest, boolean is) {
        if (isUnknown(guest)) {
            return UNKNOWN;
        }
        if (now.fixed) {
            return NOT_POSSIBLE;
        }
        if (now.people.get(guest).invited == is) {
            return NONE;
        }
        record();
        now.people.get(guest).invited = is;
        late(now.people.get(guest));
        return (int) now.people.stream().filter(person -> person.invited).count();
    }

    int set(int what, int value) {
        int[] least = {0, 0, 1, 0, 0};
        int[] most = {99999, 9999, 12, 999, 9999};
        if (what < 0 || what > 4 || value < least[what] || value > most[what]) {
            return BAD_VALUE;
        }
        if (now.fixed) {
            return NOT_POSSIBLE;
        }
        int old = now.settings[what];
        if (old == value) {
            return NONE;
        }
        record();
        now.settings[what] = value;
        return old;
    }

    int pass(int days) {
        if (days < 1 || days > 60) {
            return BAD_VALUE;
        }
        if (now.day + days > 999) {
            return NOT_POSSIBLE;
        }
        record();
        now.day += days;
        return now.day;
    }

    int fix() {
        if (now.fixed) {
            return NOT_POSSIBLE;
        }
        int chosen = company(1);
        if (chosen == 0) {
            return NONE;
        }
        record();
        now.fixed = true;
        now.left = chosen;
        now.fixedFee = feeOf(Integer.bitCount(chosen));
        now.companies++;
        int sum = 0;
        int seat = 0;
        for (int guest : membersOf(chosen)) {
            Person person = now.people.get(guest);
            sum += now.fixedFee + person.charges;
            person.paid += now.fixedFee + person.charges;
            person.charges = 0;
            person.seat = seat++;
        }
        return sum;
    }

    int cancel(int guest) {
        if (isUnknown(guest)) {
            return UNKNOWN;
        }
        if (!now.fixed || (now.left & 1 << guest) == 0) {
            return NOT_POSSIBLE;
        }
        record();
        int before = now.left;
        now.cancellations++;
        now.people.get(guest).seat = NONE;
        now.left -= 1 << guest;
        while (true) {
            int set = now.left;
            for (int other : membersOf(set)) {
                Person person = now.people.get(other);
                if (!read(person.condition).isMet(set)) {
                    now.left -= 1 << other;
                    now.followers++;
                    person.seat = NONE;
                    person.back += now.fixedFee / 2;
                }
            }
            if (now.left == set) {
                return Integer.bitCount(before) - Integer.bitCount(set);
            }
        }
    }

    int dissolve() {
        if (!now.fixed) {
            return NOT_POSSIBLE;
        }
        record();
        now.fixed = false;
        for (Person person : now.people) {
            person.seat = NONE;
        }
        return Integer.bitCount(now.left);
    }

    int type(char character) {
        if (text.length() == 60) {
            return FULL;
        }
        text.append(character);
        return text.length();
    }

    int clearText() {
        int length = text.length();
        text.setLength(0);
        return length;
    }

    int undo() {
        if (history.isEmpty()) {
            return NONE;
        }
        now = history.removeLast();
        return history.size();
    }

    int keep() {
        snapshot = now.copy();
        return now.people.size();
    }

    int restore() {
        if (snapshot == null) {
            return NONE;
        }
        record();
        now = snapshot.copy();
        return now.people.size();
    }

    int guest(int guest, int what) {
        if (isUnknown(guest)) {
            return UNKNOWN;
        }
        if (what < 0 || what > 7) {
            return BAD_VALUE;
        }
        Person person = now.people.get(guest);
        return new int[] {person.limit, person.weight, person.invited ? 1 : 0, person.charges,
            lettersOf(person.condition), person.paid, person.back, person.seat}[what];
    }

    /** In an accepted condition, each letter is about a guest. */
    private static int lettersOf(String condition) {
        return condition.chars().filter(Character::isLetter).map(c -> 1 << c - 'a').reduce(0, (a, b) -> a | b);
    }

    int met(int guest, int set) {
        if (isUnknown(guest)) {
            return UNKNOWN;
        }
        if (set < 0 || set >= 1 << now.people.size()) {
            return BAD_VALUE;
        }
        return read(now.people.get(guest).condition).isMet(set) ? 1 : 0;
    }

    int stable(int set) {
        if (set < 0 || set >= 1 << now.people.size()) {
            return BAD_VALUE;
        }
        return stableSets(-1, -1).contains(set) ? 1 : 0;
    }

    private int feeOf(int many) {
        int hall = now.settings[0] / many + (now.settings[0] % many == 0 ? 0 : 1);
        return hall + now.settings[1];
    }

    int fee(int many) {
        return many < 1 || many > 12 ? BAD_VALUE : feeOf(many);
    }

    private static List<Integer> membersOf(int set) {
        List<Integer> members = new ArrayList<>();
        for (int guest = 0; guest < 12; guest++) {
            if ((set >> guest) % 2 == 1) {
                members.add(guest);
            }
        }
        return members;
    }

    /** All of them, found by trying; with another limit for one guest, if that is no number below 0. */
    private List<Integer> stableSets(int who, int limit) {
        List<Condition> conditions = new ArrayList<>();
        for (Person person : now.people) {
            conditions.add(read(person.condition));
        }
        List<Integer> found = new ArrayList<>();
        for (int set = 0; set < 1 << now.people.size(); set++) {
            int company = set;
            boolean isStable = membersOf(set).stream().allMatch(guest -> {
                Person person = now.people.get(guest);
                int most = guest == who ? limit : person.limit;
                return person.invited && feeOf(Integer.bitCount(company)) <= most
                        && conditions.get(guest).isMet(company);
            });
            if (isStable) {
                found.add(set);
            }
        }
        return found;
    }

    private static int unionOf(List<Integer> sets) {
        return sets.stream().reduce(0, (a, b) -> a | b);
    }

    private int weightsOf(int set) {
        return membersOf(set).stream().mapToInt(guest -> now.people.get(guest).weight).sum();
    }

    int company(int what) {
        if (what < 0 || what > 3) {
            return BAD_VALUE;
        }
        if (what == 3) {
            return now.fixed ? now.left : NONE;
        }
        List<Integer> sets = stableSets(-1, -1);
        int greatest = unionOf(sets);
        if (what == 0 || what == 1 && Integer.bitCount(greatest) <= now.settings[2]) {
            return greatest;
        }
        if (what == 1) {
            return sets.stream().filter(set -> Integer.bitCount(set) <= now.settings[2])
                    .max((a, b) -> compare(a, b)).get();
        }
        return sets.stream().filter(set -> set != 0)
                .min((a, b) -> Integer.bitCount(a) != Integer.bitCount(b)
                        ? Integer.bitCount(a) - Integer.bitCount(b) : a - b).orElse(NONE);
    }

    /** Which of two companies is the better one to choose. */
    private int compare(int a, int b) {
        if (Integer.bitCount(a) != Integer.bitCount(b)) {
            return Integer.bitCount(a) - Integer.bitCount(b);
        }
        return weightsOf(a) != weightsOf(b) ? weightsOf(a) - weightsOf(b) : b - a;
    }

    int companies() {
        return stableSets(-1, -1).size();
    }

    /** The sets of the rounds; that of the round 0 has all guests, that of the round 1 the invited ones. */
    private List<Integer> setsOfRounds() {
        List<Integer> sets = new ArrayList<>();
        sets.add((1 << now.people.size()) - 1);
        int set = 0;
        for (int guest = 0; guest < now.people.size(); guest++) {
            set += now.people.get(guest).invited ? 1 << guest : 0;
        }
        sets.add(set);
        while (true) {
            int next = set;
            for (int guest : membersOf(set)) {
                next -= reasonIn(guest, set) == 0 ? 0 : 1 << guest;
            }
            if (next == set) {
                return sets;
            }
            set = next;
            sets.add(set);
        }
    }

    private int reasonIn(int guest, int set) {
        Person person = now.people.get(guest);
        if (!read(person.condition).isMet(set)) {
            return 2;
        }
        return person.limit < feeOf(Integer.bitCount(set)) ? 3 : 0;
    }

    int rounds() {
        return setsOfRounds().size() - 1;
    }

    int why(int guest, int what) {
        if (isUnknown(guest)) {
            return UNKNOWN;
        }
        if (what < 0 || what > 4) {
            return BAD_VALUE;
        }
        List<Integer> sets = setsOfRounds();
        int round = roundOf(guest, sets);
        if (round < 0) {
            return what == 0 ? 0 : NONE;
        }
        switch (what) {
            case 0: return round == 0 ? 1 : reasonIn(guest, sets.get(round));
            case 1: return round;
            case 2: return before(guest, sets);
            default:
                int many = 1;
                int last = guest;
                while (before(last, sets) != NONE) {
                    last = before(last, sets);
                    many++;
                }
                return what == 3 ? many : last;
        }
    }

    /** The last round in which the guest is there still, if another one follows; otherwise -1. */
    private static int roundOf(int guest, List<Integer> sets) {
        for (int round = 0; round + 1 < sets.size(); round++) {
            if ((sets.get(round) >> guest) % 2 == 1 && (sets.get(round + 1) >> guest) % 2 == 0) {
                return round;
            }
        }
        return -1;
    }

    private int before(int guest, List<Integer> sets) {
        int round = roundOf(guest, sets);
        if (round == 0) {
            return NONE;
        }
        boolean isFee = reasonIn(guest, sets.get(round)) == 3;
        int letters = lettersOf(now.people.get(guest).condition);
        for (int other = 0; other < now.people.size(); other++) {
            if (roundOf(other, sets) == round - 1 && (isFee || (letters >> other) % 2 == 1)) {
                return other;
            }
        }
        return NONE;
    }

    int needs(int guest) {
        if (isUnknown(guest)) {
            return UNKNOWN;
        }
        Condition condition = read(now.people.get(guest).condition);
        int fewest = 99;
        for (int set = 0; set < 1 << now.people.size(); set++) {
            if (condition.isMet(set)) {
                fewest = Math.min(fewest, Integer.bitCount(set));
            }
        }
        return fewest == 99 ? NONE : fewest;
    }

    int weightOf(int guest) {
        if (isUnknown(guest)) {
            return UNKNOWN;
        }
        if (!now.people.get(guest).invited) {
            return NONE;
        }
        int with = Integer.bitCount(unionOf(stableSets(-1, -1)));
        now.people.get(guest).invited = false;
        int without = Integer.bitCount(unionOf(stableSets(-1, -1)));
        now.people.get(guest).invited = true;
        return with - without;
    }

    /** By halving, as a guest who comes with a limit comes with a greater one, too. */
    int leastLimit(int guest) {
        if (isUnknown(guest)) {
            return UNKNOWN;
        }
        if (!comesWith(guest, 99999)) {
            return NONE;
        }
        int tooSmall = -1;
        int enough = 99999;
        while (enough - tooSmall > 1) {
            int limit = (enough + tooSmall) / 2;
            if (comesWith(guest, limit)) {
                enough = limit;
            } else {
                tooSmall = limit;
            }
        }
        return enough;
    }

    private boolean comesWith(int guest, int limit) {
        return (unionOf(stableSets(guest, limit)) >> guest) % 2 == 1;
    }

    int seat(int seat) {
        if (seat < 0 || seat > 11) {
            return UNKNOWN;
        }
        for (int guest = 0; guest < now.people.size(); guest++) {
            if (now.people.get(guest).seat == seat) {
                return guest;
            }
        }
        return NONE;
    }

    int count(int what) {
        if (what < 0 || what > 16) {
            return BAD_VALUE;
        }
        int invited = 0;
        int paid = 0;
        int back = 0;
        int charges = 0;
        for (Person person : now.people) {
            invited += person.invited ? 1 : 0;
            paid += person.paid;
            back += person.back;
            charges += person.charges;
        }
        return new int[] {now.day, now.people.size(), invited, now.settings[0], now.settings[1],
            now.settings[2], now.settings[3], now.settings[4], now.fixed ? 1 : 0, paid, back, now.companies,
            now.cancellations, now.followers, charges, history.size(), text.length()}[what];
    }
}
