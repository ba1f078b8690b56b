import java.util.function.ToIntFunction;

/** What the document says of numbers at the edge of what is taken, and of calls that are refused. */
final class Edge {
    /** A call with one of its numbers left open. */
    interface Call {
        int with(SherdCity city, int v);
    }

    /**
     * Numbers that are no NAME: none, below, a letter 0 at the end, within and ahead of others, seven letters with a 0
     * among them and without (aaaaaaa, aaaaaab, eazzzzz).
     */
    private static final int[] NO_NAMES = {
        0, -1, Integer.MIN_VALUE, Integer.MAX_VALUE, 27, 54, 702 - 702 % 27, 729, 730, 756, 27 * 27 * 27 * 5 + 27 * 3 + 4,
        387420489, 387420490, 387420489 + 14348907, 402321277, 402321278, 5 * 387420489 + 14348907 + 14348906,
    };
    private static final int[] NAMES = {1, 26, 28, 728, 757, 19093, 14900788, 387420488};

    private final Due due = new Due();

    void is(String sentence, long got, long want) {
        due.is(sentence, got, want);
    }

    void holds(String sentence, boolean is) {
        due.holds(sentence, is);
    }

    void end() {
        due.end();
    }

    /** The call answers so on a city of that scene. */
    void answers(String sentence, Scene scene, ToIntFunction<SherdCity> call, int want) {
        due.is(sentence, call.applyAsInt(scene.city()), want);
    }

    /** The call answers so, and leaves all as it was. */
    void refused(String sentence, Scene scene, ToIntFunction<SherdCity> call, int want) {
        answers(sentence, scene, call, want);
        changesNothing(sentence, scene, call);
    }

    void changesNothing(String sentence, Scene scene, ToIntFunction<SherdCity> call) {
        due.holds(sentence + ": changes nothing", scene.isLike(scene.then(c -> call.applyAsInt(c))));
    }

    /** Numbers from low to high are taken, all others refused. */
    void takes(String sentence, Scene scene, int low, int high, int refusal, Call call) {
        for (int v : new int[] {low, high}) {
            due.holds(sentence + ": " + v + " is taken", call.with(scene.city(), v) != refusal);
        }
        refusesOutside(sentence, scene, low, high, refusal, call);
    }

    void refusesOutside(String sentence, Scene scene, int low, int high, int refusal, Call call) {
        for (int v : new int[] {low - 1, high + 1, Integer.MIN_VALUE, Integer.MAX_VALUE}) {
            refused(sentence + ": " + v, scene, c -> call.with(c, v), refusal);
        }
    }

    /** NAMES are taken, and nothing else. */
    void takesNames(String sentence, Scene scene, Call call) {
        for (int name : NAMES) {
            due.holds(sentence + ": " + name + " is taken", call.with(scene.city(), name) >= 0);
        }
        refusesNoNames(sentence, scene, call);
    }

    /** NAMES are taken, 0 for none, and nothing else. */
    void takesNamesOrNone(String sentence, Scene scene, Call call) {
        for (int name : NAMES) {
            due.holds(sentence + ": " + name + " is taken", call.with(scene.city(), name) >= 0);
        }
        due.holds(sentence + ": 0 is taken", call.with(scene.city(), 0) >= 0);
        for (int name : NO_NAMES) {
            if (name != 0) {
                refused(sentence + ": " + name, scene, c -> call.with(c, name), SherdCity.BAD);
            }
        }
    }

    void refusesNoNames(String sentence, Scene scene, Call call) {
        for (int name : NO_NAMES) {
            refused(sentence + ": " + name, scene, c -> call.with(c, name), SherdCity.BAD);
        }
    }

    /** All of these are told by what = 0 on. */
    void tells(String sentence, SherdCity city, Call call, int... want) {
        for (int what = 0; what < want.length; what++) {
            due.is(sentence + ", what = " + what, call.with(city, what), want[what]);
        }
    }
}
