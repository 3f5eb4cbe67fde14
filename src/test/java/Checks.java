/** Counts the answers that are due and those that are not, and prints the latter. */
final class Checks {
    private final String name;
    private int passed = 0;
    private int failed = 0;

    Checks(String name) {
        this.name = name;
    }

    void due(String what, long answer, long due) {
        if (answer == due) {
            passed++;
        } else {
            failed++;
            System.out.println(name + ": " + what + " answered " + answer + ", due is " + due);
        }
    }

    /** Ends the program with 1 if an answer was not the one that is due, or nothing was asked. */
    void finish() {
        System.out.println(name + ": " + passed + " passed, " + failed + " failed");
        if (failed != 0 || passed == 0) {
            System.exit(1);
        }
    }

    /** Puts another text in place of the one that is there. */
    static void write(StableParty party, String text) {
        party.clearText();
        for (int i = 0; i < text.length(); i++) {
            party.type(text.charAt(i));
        }
    }

    static int condition(StableParty party, int guest, String text) {
        write(party, text);
        return party.setCondition(guest);
    }

    /** A party of so many guests with the limit 99999 and the weight 1. */
    static StableParty partyOf(int guests) {
        StableParty party = new StableParty();
        for (int i = 0; i < guests; i++) {
            party.addGuest(99999, 1);
        }
        return party;
    }
}
