/**
 * A party to which guests come if enough of others come.
 *
 * Sets of guests are told as bits: 1 for the guest 0, 2 for the guest 1, and so on. Everything that
 * an object needs is made with it and used again, so no later call makes an object or an array.
 */
public final class StableParty {
    /** There is no such guest or seat. */
    public static final int UNKNOWN = -1;
    /** Another argument is out of range. */
    public static final int BAD_VALUE = -2;
    /** There is no more room. */
    public static final int FULL = -3;
    /** This is not possible. */
    public static final int NOT_POSSIBLE = -4;
    /** There is no such thing; not an error. */
    public static final int NONE = -5;

    private static final int MOST_GUESTS = 12;
    private static final int EVERY_LETTER = (1 << MOST_GUESTS) - 1;
    private static final int MOST_LIMIT = 99999;
    private static final int MOST_WEIGHT = 9;
    private static final int MOST_DAY = 999;
    private static final int MOST_DAYS_TO_PASS = 60;
    private static final int MOST_CHARACTERS = 60;
    private static final int MOST_OPEN_BRACKETS = 8;
    private static final int MOST_STATES = 4;

    private static final int HALL = 0;
    private static final int HEAD = 1;
    private static final int PLACES = 2;
    private static final int CLOSING = 3;
    private static final int LATE_CHARGE = 4;
    private static final int SETTINGS = 5;
    private static final int[] FIRST_SETTINGS = {10000, 500, 12, 10, 200};
    private static final int[] LEAST_SETTINGS = {0, 0, 1, 0, 0};
    private static final int[] MOST_SETTINGS = {99999, 9999, 12, 999, 9999};

    private static final int NO_FAULT = -1;
    private static final int FAULTS_FROM = -100;
    private static final int NOBODY = -1;

    // A step of a condition that was read is one of these, or an atom, which is never negative.
    private static final int OPEN = -1;
    private static final int CLOSE = -2;
    private static final int OR = -3;

    private final State now = new State();
    private final History history = new History();
    private final State snapshot = new State();
    private boolean hasSnapshot = false;
    private final char[] text = new char[MOST_CHARACTERS];
    private int textLength = 0;
    private final Reader reader = new Reader();
    private final Search search = new Search();

    /** Creates a party without guests, on the day 0. */
    public StableParty() {
    }

    // ---- guests

    /** Adds a guest, who is invited, with the condition "*". */
    public int addGuest(int limit, int weight) {
        if (!isWithin(limit, 0, MOST_LIMIT) || !isWithin(weight, 1, MOST_WEIGHT)) {
            return BAD_VALUE;
        }
        if (now.fixed) {
            return NOT_POSSIBLE;
        }
        if (now.guestCount >= MOST_GUESTS) {
            return FULL;
        }
        history.record(now);
        return now.add(limit, weight);
    }

    /** Gives a guest the condition in the text, which stays. */
    public int setCondition(int guest) {
        Guest one = now.find(guest);
        if (one == null) {
            return UNKNOWN;
        }
        int fault = reader.read(text, textLength);
        if (fault != NO_FAULT) {
            return FAULTS_FROM - fault;
        }
        if (!now.hasAll(reader.letters)) {
            return BAD_VALUE;
        }
        if (now.fixed) {
            return NOT_POSSIBLE;
        }
        history.record(now);
        one.takeCondition(reader);
        now.chargeIfLate(one);
        return Integer.bitCount(one.letters);
    }

    /** Gives a guest another limit. */
    public int setLimit(int guest, int limit) {
        Guest one = now.find(guest);
        if (one == null) {
            return UNKNOWN;
        }
        if (!isWithin(limit, 0, MOST_LIMIT)) {
            return BAD_VALUE;
        }
        if (now.fixed) {
            return NOT_POSSIBLE;
        }
        int previous = one.limit;
        if (previous == limit) {
            return NONE;
        }
        history.record(now);
        one.limit = limit;
        now.chargeIfLate(one);
        return previous;
    }

    /** Gives a guest another weight. */
    public int setWeight(int guest, int weight) {
        Guest one = now.find(guest);
        if (one == null) {
            return UNKNOWN;
        }
        if (!isWithin(weight, 1, MOST_WEIGHT)) {
            return BAD_VALUE;
        }
        if (now.fixed) {
            return NOT_POSSIBLE;
        }
        int previous = one.weight;
        if (previous == weight) {
            return NONE;
        }
        history.record(now);
        one.weight = weight;
        return previous;
    }

    /** Invites a guest, or takes the invitation back. */
    public int invite(int guest, boolean is) {
        Guest one = now.find(guest);
        if (one == null) {
            return UNKNOWN;
        }
        if (now.fixed) {
            return NOT_POSSIBLE;
        }
        if (one.invited == is) {
            return NONE;
        }
        history.record(now);
        one.invited = is;
        now.chargeIfLate(one);
        return Integer.bitCount(now.invitedGuests());
    }

    /** Sets a number: the hall, the head, the places, the closing or the late charge. */
    public int set(int what, int value) {
        if (!isWithin(what, 0, SETTINGS - 1)
                || !isWithin(value, LEAST_SETTINGS[what], MOST_SETTINGS[what])) {
            return BAD_VALUE;
        }
        if (now.fixed) {
            return NOT_POSSIBLE;
        }
        int previous = now.settings[what];
        if (previous == value) {
            return NONE;
        }
        history.record(now);
        now.settings[what] = value;
        return previous;
    }

    // ---- what happens

    /** Lets days pass. */
    public int pass(int days) {
        if (!isWithin(days, 1, MOST_DAYS_TO_PASS)) {
            return BAD_VALUE;
        }
        if (now.day + days > MOST_DAY) {
            return NOT_POSSIBLE;
        }
        history.record(now);
        now.day += days;
        return now.day;
    }

    /** Fixes the chosen company. */
    public int fix() {
        if (now.fixed) {
            return NOT_POSSIBLE;
        }
        int chosen = findChosen();
        if (chosen == 0) {
            return NONE;
        }
        history.record(now);
        return now.fixCompany(chosen);
    }

    /** Lets a guest of the fixed company cancel. */
    public int cancel(int guest) {
        if (now.find(guest) == null) {
            return UNKNOWN;
        }
        if (!now.fixed || !isIn(now.left, guest)) {
            return NOT_POSSIBLE;
        }
        history.record(now);
        return now.letCancel(guest);
    }

    /** Dissolves the fixed company. */
    public int dissolve() {
        if (!now.fixed) {
            return NOT_POSSIBLE;
        }
        history.record(now);
        return now.dissolveCompany();
    }

    // ---- texts

    /** Types a character behind the text. */
    public int type(char character) {
        if (textLength < 0 || textLength >= text.length) {
            return FULL;
        }
        text[textLength] = character;
        textLength++;
        return textLength;
    }

    /** Empties the text. */
    public int clearText() {
        int previous = textLength;
        textLength = 0;
        return previous;
    }

    // ---- history

    /** Removes and restores the latest state of the history. */
    public int undo() {
        if (history.size == 0) {
            return NONE;
        }
        history.takeBack(now);
        return history.size;
    }

    /** Takes a snapshot of the state, in place of the one that was. */
    public int keep() {
        snapshot.copyFrom(now);
        hasSnapshot = true;
        return now.guestCount;
    }

    /** Restores the state of the snapshot, which stays. */
    public int restore() {
        if (!hasSnapshot) {
            return NONE;
        }
        history.record(now);
        now.copyFrom(snapshot);
        return now.guestCount;
    }

    // ---- what is told

    /** Tells a number of a guest. */
    public int guest(int guest, int what) {
        Guest one = now.find(guest);
        if (one == null) {
            return UNKNOWN;
        }
        return one.tell(what);
    }

    /** Tells whether the condition of a guest is met by a set. */
    public int met(int guest, int set) {
        Guest one = now.find(guest);
        if (one == null) {
            return UNKNOWN;
        }
        if (!now.hasAll(set)) {
            return BAD_VALUE;
        }
        return asNumber(one.isContentWith(set));
    }

    /** Tells whether a set is a stable company. */
    public int stable(int set) {
        if (!now.hasAll(set)) {
            return BAD_VALUE;
        }
        return asNumber(now.isStable(set));
    }

    /** Tells the fee of so many guests. */
    public int fee(int many) {
        if (!isWithin(many, 1, MOST_GUESTS)) {
            return BAD_VALUE;
        }
        return now.feeOf(many);
    }

    /** Tells the greatest stable company, the chosen one, the smallest one, or the fixed one. */
    public int company(int what) {
        switch (what) {
            case 0: return findGreatest();
            case 1: return findChosen();
            case 2: return now.smallestPart(findGreatest());
            case 3: return now.fixed ? now.left : NONE;
            default: return BAD_VALUE;
        }
    }

    /** Tells how many stable companies there are, with the empty one. */
    public int companies() {
        return now.countParts(findGreatest());
    }

    /** Tells why a guest stays away, as the greatest stable company is found. */
    public int why(int guest, int what) {
        if (now.find(guest) == null) {
            return UNKNOWN;
        }
        if (!isWithin(what, Search.REASON, Search.WAY_END)) {
            return BAD_VALUE;
        }
        findGreatest();
        return search.tell(guest, what);
    }

    /** Tells how many rounds it takes to find the greatest stable company. */
    public int rounds() {
        findGreatest();
        return search.lastRound;
    }

    /** Tells the fewest guests, invited or not, by which the condition of a guest is met. */
    public int needs(int guest) {
        Guest one = now.find(guest);
        if (one == null) {
            return UNKNOWN;
        }
        int fewest = NONE;
        int everybody = now.everybody();
        for (int set = 0; set <= everybody; set++) {
            int many = Integer.bitCount(set);
            if ((fewest == NONE || many < fewest) && one.isContentWith(set)) {
                fewest = many;
            }
        }
        return fewest;
    }

    /** Tells how many fewer guests would come without the invitation of a guest. */
    public int weightOf(int guest) {
        Guest one = now.find(guest);
        if (one == null) {
            return UNKNOWN;
        }
        if (!one.invited) {
            return NONE;
        }
        int invited = now.invitedGuests();
        int with = search.findGreatest(now, invited, NOBODY);
        int without = search.findGreatest(now, invited & ~bitOf(guest), NOBODY);
        return Integer.bitCount(with) - Integer.bitCount(without);
    }

    /** Finds the least limit with which a guest would be in the greatest stable company. */
    public int leastLimit(int guest) {
        Guest one = now.find(guest);
        if (one == null) {
            return UNKNOWN;
        }
        // No smaller limit lets a greater company, with a smaller fee, be stable: so the fee of this
        // company is the least limit.
        int greatest = search.findGreatest(now, now.invitedGuests(), guest);
        return isIn(greatest, guest) ? now.feeOf(Integer.bitCount(greatest)) : NONE;
    }

    /** Tells the guest on a seat. */
    public int seat(int seat) {
        if (!isWithin(seat, 0, MOST_GUESTS - 1)) {
            return UNKNOWN;
        }
        return now.guestOnSeat(seat);
    }

    /** Tells a number of the party. */
    public int count(int what) {
        switch (what) {
            case 0: return now.day;
            case 1: return now.guestCount;
            case 2: return Integer.bitCount(now.invitedGuests());
            case 3: return now.settings[HALL];
            case 4: return now.settings[HEAD];
            case 5: return now.settings[PLACES];
            case 6: return now.settings[CLOSING];
            case 7: return now.settings[LATE_CHARGE];
            case 8: return asNumber(now.fixed);
            case 9: return now.sumOf(Guest.PAID);
            case 10: return now.sumOf(Guest.GOT_BACK);
            case 11: return now.fixedSoFar;
            case 12: return now.cancelledSoFar;
            case 13: return now.followedSoFar;
            case 14: return now.sumOf(Guest.CHARGES);
            case 15: return history.size;
            case 16: return textLength;
            default: return BAD_VALUE;
        }
    }

    private int findGreatest() {
        return search.findGreatest(now, now.invitedGuests(), NOBODY);
    }

    private int findChosen() {
        int greatest = findGreatest();
        if (Integer.bitCount(greatest) <= now.settings[PLACES]) {
            return greatest;
        }
        return now.bestPart(greatest);
    }

    private static boolean isWithin(int value, int least, int most) {
        return value >= least && value <= most;
    }

    private static int asNumber(boolean is) {
        return is ? 1 : 0;
    }

    private static int bitOf(int guest) {
        return 1 << guest;
    }

    private static boolean isIn(int set, int guest) {
        return (set & bitOf(guest)) != 0;
    }

    private static boolean isPart(int part, int set) {
        return (part & ~set) == 0;
    }

    /** The guest with the lowest number in a set, or NONE. */
    private static int lowestOf(int set) {
        for (int guest = 0; guest < MOST_GUESTS; guest++) {
            if (isIn(set, guest)) {
                return guest;
            }
        }
        return NONE;
    }

    /** An atom of a condition as a step: at least so many of these guests. */
    private static int atomOf(int many, int guests) {
        return many << MOST_GUESTS | guests;
    }

    private static boolean isAtomMet(int atom, int set) {
        int many = atom >> MOST_GUESTS;
        int guests = atom & EVERY_LETTER;
        return Integer.bitCount(set & guests) >= many;
    }

    /** A guest, with the condition as steps. */
    private static final class Guest {
        private static final int LIMIT = 0;
        private static final int WEIGHT = 1;
        private static final int INVITED = 2;
        private static final int CHARGES = 3;
        private static final int LETTERS = 4;
        private static final int PAID = 5;
        private static final int GOT_BACK = 6;
        private static final int SEAT = 7;

        private int limit;
        private int weight;
        private boolean invited;
        private int charges;
        private int paid;
        private int gotBack;
        private int seat;
        private int letters;
        private int stepCount;
        private final int[] steps = new int[MOST_CHARACTERS];

        private int tell(int what) {
            switch (what) {
                case LIMIT: return limit;
                case WEIGHT: return weight;
                case INVITED: return asNumber(invited);
                case CHARGES: return charges;
                case LETTERS: return letters;
                case PAID: return paid;
                case GOT_BACK: return gotBack;
                case SEAT: return seat;
                default: return BAD_VALUE;
            }
        }

        private void begin(int firstLimit, int firstWeight) {
            limit = firstLimit;
            weight = firstWeight;
            invited = true;
            charges = 0;
            paid = 0;
            gotBack = 0;
            seat = NONE;
            letters = 0;
            stepCount = 1;
            steps[0] = atomOf(0, 0);
        }

        private void copyFrom(Guest other) {
            limit = other.limit;
            weight = other.weight;
            invited = other.invited;
            charges = other.charges;
            paid = other.paid;
            gotBack = other.gotBack;
            seat = other.seat;
            copyCondition(other.letters, other.steps, other.stepCount);
        }

        private void takeCondition(Reader from) {
            copyCondition(from.letters, from.steps, from.stepCount);
        }

        private void copyCondition(int newLetters, int[] newSteps, int newStepCount) {
            letters = newLetters;
            stepCount = newStepCount;
            for (int i = 0; i < newStepCount && i < newSteps.length && i < steps.length; i++) {
                steps[i] = newSteps[i];
            }
        }

        /**
         * Whether the condition is met by a set. The lowest bits are about the innermost open
         * bracket, the next ones about that around it: whether a part that has ended is met, and
         * whether all atoms so far of the part at hand are.
         */
        private boolean isContentWith(int set) {
            int ended = 0;
            int part = 1;
            for (int i = 0; i < stepCount && i < steps.length; i++) {
                int step = steps[i];
                if (step == OPEN) {
                    ended = ended << 1;
                    part = part << 1 | 1;
                } else if (step == OR) {
                    ended |= part & 1;
                    part |= 1;
                } else if (step == CLOSE) {
                    int inner = (ended | part) & 1;
                    ended = ended >> 1;
                    part = part >> 1 & (inner | ~1);
                } else if (!isAtomMet(step, set)) {
                    part &= ~1;
                }
            }
            return ((ended | part) & 1) != 0;
        }
    }

    /** All that is recorded, kept and restored. */
    private static final class State {
        private final Guest[] guests = new Guest[MOST_GUESTS];
        private int guestCount = 0;
        private final int[] settings = new int[SETTINGS];
        private int day = 0;
        private boolean fixed = false;
        /** The guests of the fixed company who are left. */
        private int left = 0;
        private int paidFee = 0;
        private int fixedSoFar = 0;
        private int cancelledSoFar = 0;
        private int followedSoFar = 0;

        private State() {
            for (int k = 0; k < MOST_GUESTS; k++) {
                guests[k] = new Guest();
            }
            for (int what = 0; what < SETTINGS; what++) {
                settings[what] = FIRST_SETTINGS[what];
            }
        }

        private void copyFrom(State other) {
            guestCount = other.guestCount;
            for (int k = 0; k < MOST_GUESTS; k++) {
                Guest to = find(k);
                Guest from = other.find(k);
                if (to != null && from != null) {
                    to.copyFrom(from);
                }
            }
            for (int what = 0; what < SETTINGS; what++) {
                settings[what] = other.settings[what];
            }
            day = other.day;
            fixed = other.fixed;
            left = other.left;
            paidFee = other.paidFee;
            fixedSoFar = other.fixedSoFar;
            cancelledSoFar = other.cancelledSoFar;
            followedSoFar = other.followedSoFar;
        }

        /** The guest with this number, or null if there is none. */
        private Guest find(int number) {
            boolean is = number >= 0 && number < guestCount && number < guests.length;
            return is ? guests[number] : null;
        }

        private int add(int limit, int weight) {
            int number = guestCount;
            guestCount++;
            Guest one = find(number);
            if (one != null) {
                one.begin(limit, weight);
            }
            return number;
        }

        private int everybody() {
            return bitOf(guestCount) - 1;
        }

        private boolean hasAll(int set) {
            return isWithin(set, 0, everybody());
        }

        private int invitedGuests() {
            int invited = 0;
            for (int k = 0; k < MOST_GUESTS; k++) {
                Guest one = find(k);
                if (one != null && one.invited) {
                    invited |= bitOf(k);
                }
            }
            return invited;
        }

        private void chargeIfLate(Guest one) {
            if (day > settings[CLOSING]) {
                one.charges += settings[LATE_CHARGE];
            }
        }

        /** The fee of so many; nobody pays anything. */
        private int feeOf(int many) {
            if (many <= 0) {
                return 0;
            }
            return (settings[HALL] + many - 1) / many + settings[HEAD];
        }

        private boolean isStable(int set) {
            int price = feeOf(Integer.bitCount(set));
            for (int k = 0; k < MOST_GUESTS; k++) {
                if (isIn(set, k)) {
                    Guest one = find(k);
                    if (one == null || !one.invited || one.limit < price || !one.isContentWith(set)) {
                        return false;
                    }
                }
            }
            return true;
        }

        // All stable companies are parts of the greatest one, so only its parts are looked at.

        private int countParts(int greatest) {
            int many = 0;
            for (int set = 0; set <= greatest; set++) {
                if (isPart(set, greatest) && isStable(set)) {
                    many++;
                }
            }
            return many;
        }

        private int smallestPart(int greatest) {
            int smallest = NONE;
            int fewest = MOST_GUESTS + 1;
            for (int set = 1; set <= greatest; set++) {
                int many = Integer.bitCount(set);
                if (isPart(set, greatest) && many < fewest && isStable(set)) {
                    smallest = set;
                    fewest = many;
                }
            }
            return smallest;
        }

        /** Of the stable companies that find places, that with the most guests, then weights. */
        private int bestPart(int greatest) {
            int best = 0;
            for (int set = 1; set <= greatest; set++) {
                if (isPart(set, greatest) && Integer.bitCount(set) <= settings[PLACES]
                        && isBetter(set, best) && isStable(set)) {
                    best = set;
                }
            }
            return best;
        }

        private boolean isBetter(int set, int than) {
            int more = Integer.bitCount(set) - Integer.bitCount(than);
            return more > 0 || more == 0 && sumOfWeights(set) > sumOfWeights(than);
        }

        private int sumOfWeights(int set) {
            int sum = 0;
            for (int k = 0; k < MOST_GUESTS; k++) {
                Guest one = find(k);
                if (one != null && isIn(set, k)) {
                    sum += one.weight;
                }
            }
            return sum;
        }

        /** The sum of a number of all guests. */
        private int sumOf(int what) {
            int sum = 0;
            for (int k = 0; k < MOST_GUESTS; k++) {
                Guest one = find(k);
                sum += one == null ? 0 : one.tell(what);
            }
            return sum;
        }

        private int guestOnSeat(int number) {
            for (int k = 0; k < MOST_GUESTS; k++) {
                Guest one = find(k);
                if (one != null && one.seat == number) {
                    return k;
                }
            }
            return NONE;
        }

        /** Returns what the guests pay in all. */
        private int fixCompany(int company) {
            int total = 0;
            int nextSeat = 0;
            fixed = true;
            left = company;
            paidFee = feeOf(Integer.bitCount(company));
            fixedSoFar++;
            for (int k = 0; k < MOST_GUESTS; k++) {
                Guest one = find(k);
                if (one != null && isIn(company, k)) {
                    int price = paidFee + one.charges;
                    one.paid += price;
                    one.charges = 0;
                    one.seat = nextSeat;
                    nextSeat++;
                    total += price;
                }
            }
            return total;
        }

        /** Returns how many guests leave in all. */
        private int letCancel(int guest) {
            int before = Integer.bitCount(left);
            cancelledSoFar++;
            letGo(bitOf(guest), 0);
            int leaving = discontent();
            for (int round = 0; round < MOST_GUESTS && leaving != 0; round++) {
                followedSoFar += Integer.bitCount(leaving);
                letGo(leaving, paidFee / 2);
                leaving = discontent();
            }
            return before - Integer.bitCount(left);
        }

        /** The guests who are left and whose conditions those who are left do not meet. */
        private int discontent() {
            int found = 0;
            for (int k = 0; k < MOST_GUESTS; k++) {
                Guest one = find(k);
                if (one != null && isIn(left, k) && !one.isContentWith(left)) {
                    found |= bitOf(k);
                }
            }
            return found;
        }

        private void letGo(int leaving, int givenBack) {
            left &= ~leaving;
            for (int k = 0; k < MOST_GUESTS; k++) {
                Guest one = find(k);
                if (one != null && isIn(leaving, k)) {
                    one.seat = NONE;
                    one.gotBack += givenBack;
                }
            }
        }

        /** Returns how many guests were in the company still. */
        private int dissolveCompany() {
            int many = Integer.bitCount(left);
            letGo(left, 0);
            fixed = false;
            return many;
        }
    }

    /** The latest states, the oldest one first. */
    private static final class History {
        private final State[] states = new State[MOST_STATES];
        private int size = 0;

        private History() {
            for (int i = 0; i < MOST_STATES; i++) {
                states[i] = new State();
            }
        }

        private void record(State state) {
            if (size >= MOST_STATES) {
                moveOldestBehind();
                size = MOST_STATES - 1;
            }
            State place = at(size);
            if (place != null) {
                place.copyFrom(state);
                size++;
            }
        }

        private void takeBack(State into) {
            State latest = at(size - 1);
            if (latest != null) {
                into.copyFrom(latest);
                size--;
            }
        }

        /** So the object of the state that is dropped holds the next one. */
        private void moveOldestBehind() {
            State oldest = states[0];
            for (int i = 1; i < MOST_STATES; i++) {
                states[i - 1] = states[i];
            }
            states[MOST_STATES - 1] = oldest;
        }

        private State at(int index) {
            return index >= 0 && index < states.length ? states[index] : null;
        }
    }

    /** Reads a text as a condition, character by character, and keeps its steps and letters. */
    private static final class Reader {
        // What may come next. From BEHIND_ATOM on an atom is whole, so the text may end there.
        private static final int ATOM = 0;
        private static final int NUMBER = 1;
        private static final int COLON = 2;
        private static final int FIRST_LETTER = 3;
        private static final int BEHIND_ATOM = 4;
        private static final int BEHIND_LETTER = 5;
        private static final int BEHIND_ONE = 6;

        private final int[] steps = new int[MOST_CHARACTERS];
        private int stepCount = 0;
        private int letters = 0;
        private int openBrackets = 0;
        private int expected = ATOM;
        private int atLeast = 0;
        private int among = 0;

        /** Returns the fault of the text, or NO_FAULT. */
        private int read(char[] characters, int length) {
            stepCount = 0;
            letters = 0;
            openBrackets = 0;
            expected = ATOM;
            for (int i = 0; i < length && i < characters.length; i++) {
                if (!accepts(characters[i])) {
                    return i;
                }
            }
            boolean isWhole = expected >= BEHIND_ATOM && openBrackets == 0;
            return isWhole ? NO_FAULT : length;
        }

        private boolean accepts(char c) {
            switch (expected) {
                case ATOM: return acceptsAtom(c);
                case NUMBER: return acceptsNumber(c);
                case COLON: return acceptsColon(c);
                case FIRST_LETTER: return acceptsLetter(c);
                case BEHIND_LETTER: return acceptsLetter(c) || acceptsBehindAtom(c);
                case BEHIND_ONE: return acceptsSecondDigit(c) || acceptsBehindAtom(c);
                default: return acceptsBehindAtom(c);
            }
        }

        private boolean acceptsAtom(char c) {
            if (c == '(') {
                return opensBracket();
            }
            if (c == '*') {
                addStep(atomOf(0, 0));
                expected = BEHIND_ATOM;
            } else if (c == '#') {
                expected = NUMBER;
            } else if (isLetter(c)) {
                letters |= bitOf(c - 'a');
                addStep(atomOf(1, bitOf(c - 'a')));
                expected = BEHIND_ATOM;
            } else if (isDigit(c, '1', '9')) {
                atLeast = c - '0';
                among = 0;
                addStep(atomOf(atLeast, among));
                expected = COLON;
            } else {
                return false;
            }
            return true;
        }

        private boolean opensBracket() {
            if (openBrackets >= MOST_OPEN_BRACKETS) {
                return false;
            }
            openBrackets++;
            addStep(OPEN);
            return true;
        }

        private boolean acceptsNumber(char c) {
            if (!isDigit(c, '1', '9')) {
                return false;
            }
            addStep(atomOf(c - '0', EVERY_LETTER));
            expected = c == '1' ? BEHIND_ONE : BEHIND_ATOM;
            return true;
        }

        private boolean acceptsSecondDigit(char c) {
            if (!isDigit(c, '0', '2')) {
                return false;
            }
            changeLastStep(atomOf(10 + c - '0', EVERY_LETTER));
            expected = BEHIND_ATOM;
            return true;
        }

        private boolean acceptsColon(char c) {
            expected = FIRST_LETTER;
            return c == ':';
        }

        private boolean acceptsLetter(char c) {
            if (!isLetter(c)) {
                return false;
            }
            letters |= bitOf(c - 'a');
            among |= bitOf(c - 'a');
            changeLastStep(atomOf(atLeast, among));
            expected = BEHIND_LETTER;
            return true;
        }

        private boolean acceptsBehindAtom(char c) {
            if (c == ')') {
                return closesBracket();
            }
            if (c == '|') {
                addStep(OR);
            } else if (c != '&') {
                return false;
            }
            expected = ATOM;
            return true;
        }

        private boolean closesBracket() {
            if (openBrackets <= 0) {
                return false;
            }
            openBrackets--;
            addStep(CLOSE);
            expected = BEHIND_ATOM;
            return true;
        }

        private static boolean isLetter(char c) {
            return c >= 'a' && c < 'a' + MOST_GUESTS;
        }

        private static boolean isDigit(char c, char least, char most) {
            return c >= least && c <= most;
        }

        private void addStep(int step) {
            if (stepCount >= 0 && stepCount < steps.length) {
                steps[stepCount] = step;
                stepCount++;
            }
        }

        private void changeLastStep(int step) {
            if (stepCount > 0 && stepCount <= steps.length) {
                steps[stepCount - 1] = step;
            }
        }
    }

    /** Finds the greatest stable company in rounds, and keeps why guests stayed away. */
    private static final class Search {
        private static final int REASON = 0;
        private static final int ROUND = 1;
        private static final int LEADS_BACK_TO = 2;
        private static final int WAY_LENGTH = 3;
        private static final int WAY_END = 4;

        private static final int COMES = 0;
        private static final int NOT_INVITED = 1;
        private static final int CONDITION_NOT_MET = 2;
        private static final int FEE_TOO_GREAT = 3;

        /** Those who stay away in each round; in the round 0, those who are not invited. */
        private final int[] away = new int[MOST_GUESTS + 2];
        private int lastRound = 0;
        private final int[] reasons = new int[MOST_GUESTS];
        private final int[] roundsAway = new int[MOST_GUESTS];
        private final int[] leadsBackTo = new int[MOST_GUESTS];
        private final int[] wayLengths = new int[MOST_GUESTS];
        private final int[] wayEnds = new int[MOST_GUESTS];

        /**
         * Returns the greatest stable company of these invited guests; generous is a guest whose
         * limit counts as the greatest one that there can be, or NOBODY.
         */
        private int findGreatest(State state, int invited, int generous) {
            begin(state.everybody() & ~invited);
            int company = invited;
            boolean isFound = false;
            for (int round = 1; round < away.length && !isFound; round++) {
                away[round] = sendAway(state, company, round, generous);
                company &= ~away[round];
                lastRound = round;
                isFound = away[round] == 0;
            }
            return company;
        }

        private void begin(int notInvited) {
            away[0] = notInvited;
            for (int k = 0; k < MOST_GUESTS; k++) {
                boolean is = isIn(notInvited, k);
                reasons[k] = is ? NOT_INVITED : COMES;
                roundsAway[k] = 0;
                leadsBackTo[k] = NONE;
                wayLengths[k] = 1;
                wayEnds[k] = k;
            }
        }

        /** Returns those of a company who stay away in a round. */
        private int sendAway(State state, int company, int round, int generous) {
            int price = state.feeOf(Integer.bitCount(company));
            int found = 0;
            for (int k = 0; k < MOST_GUESTS; k++) {
                Guest one = state.find(k);
                if (one != null && isIn(company, k)) {
                    int limit = k == generous ? MOST_LIMIT : one.limit;
                    if (!one.isContentWith(company)) {
                        note(k, CONDITION_NOT_MET, round, one.letters);
                        found |= bitOf(k);
                    } else if (limit < price) {
                        note(k, FEE_TOO_GREAT, round, EVERY_LETTER);
                        found |= bitOf(k);
                    }
                }
            }
            return found;
        }

        /** Notes why a guest stays away; the reason leads back to one of the suspects, or nobody. */
        private void note(int guest, int reason, int round, int suspects) {
            if (guest < 0 || guest >= MOST_GUESTS || round < 1 || round >= away.length) {
                return;
            }
            reasons[guest] = reason;
            roundsAway[guest] = round;
            int back = lowestOf(suspects & away[round - 1]);
            leadsBackTo[guest] = back;
            if (back >= 0 && back < MOST_GUESTS) {
                wayLengths[guest] = wayLengths[back] + 1;
                wayEnds[guest] = wayEnds[back];
            }
        }

        private int tell(int guest, int what) {
            if (guest < 0 || guest >= MOST_GUESTS) {
                return UNKNOWN;
            }
            int reason = reasons[guest];
            if (what != REASON && reason == COMES) {
                return NONE;
            }
            switch (what) {
                case REASON: return reason;
                case ROUND: return roundsAway[guest];
                case LEADS_BACK_TO: return leadsBackTo[guest];
                case WAY_LENGTH: return wayLengths[guest];
                case WAY_END: return wayEnds[guest];
                default: return BAD_VALUE;
            }
        }
    }
}
