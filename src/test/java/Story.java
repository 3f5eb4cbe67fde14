import java.util.ArrayList;
import java.util.List;
import java.util.function.Supplier;

/**
 * All that can be told of a party: what it answers now, after each undo, and after restore, and
 * what its text is read as. Two parties that do not differ have the same story. Each chapter takes a
 * party of its own, made anew, so that no party comes to its 512th call.
 */
final class Story {
    private static final int MOST_UNDONE = 5;

    private final List<Integer> told = new ArrayList<>();

    private Story() {
    }

    static List<Integer> of(Supplier<StableParty> made) {
        Story story = new Story();
        for (int undone = 0; undone <= MOST_UNDONE; undone++) {
            story.tellNumbers(story.undone(made.get(), undone));
            story.tellReasons(story.undone(made.get(), undone));
            story.tellConditions(story.undone(made.get(), undone));
        }
        story.tellNumbers(story.restored(made.get()));
        story.tellReasons(story.restored(made.get()));
        story.tellConditions(story.restored(made.get()));
        story.tellText(made.get());
        return story.told;
    }

    private void tell(int answer) {
        told.add(answer);
    }

    private StableParty undone(StableParty x, int times) {
        for (int i = 0; i < times; i++) {
            tell(x.undo());
        }
        return x;
    }

    private StableParty restored(StableParty x) {
        tell(x.restore());
        return x;
    }

    private void tellNumbers(StableParty x) {
        for (int what = 0; what <= 16; what++) {
            tell(x.count(what));
        }
        for (int what = 0; what <= 3; what++) {
            tell(x.company(what));
        }
        for (int seat = 0; seat <= 11; seat++) {
            tell(x.seat(seat));
        }
        for (int many = 1; many <= 12; many++) {
            tell(x.fee(many));
        }
        tell(x.companies());
        tell(x.rounds());
        for (int guest = 0; guest < x.count(1); guest++) {
            for (int what = 0; what <= 7; what++) {
                tell(x.guest(guest, what));
            }
        }
    }

    private void tellReasons(StableParty x) {
        for (int guest = 0; guest < x.count(1); guest++) {
            tell(x.needs(guest));
            tell(x.weightOf(guest));
            tell(x.leastLimit(guest));
            for (int what = 0; what <= 4; what++) {
                tell(x.why(guest, what));
            }
        }
    }

    private void tellConditions(StableParty x) {
        int guests = x.count(1);
        int all = (1 << guests) - 1;
        for (int guest = 0; guest < guests; guest++) {
            tell(x.met(guest, 0));
            tell(x.met(guest, all));
            for (int other = 0; other < guests; other++) {
                tell(x.met(guest, 1 << other));
                tell(x.met(guest, all & ~(1 << other)));
            }
        }
    }

    /** There are all guests to which a letter of the text can belong then. */
    private void tellText(StableParty x) {
        x.dissolve();
        for (int i = 0; i < 12; i++) {
            x.addGuest(1, 1);
        }
        tell(x.setCondition(0));
        tell(x.guest(0, 4));
        for (int guest = 0; guest < 12; guest++) {
            tell(x.met(0, 1 << guest));
            tell(x.met(0, 4095 & ~(1 << guest)));
        }
        tell(x.type('a'));
        tell(x.setCondition(0));
        tell(x.clearText());
    }
}
