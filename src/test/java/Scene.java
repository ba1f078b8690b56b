import java.util.ArrayList;
import java.util.Arrays;
import java.util.List;
import java.util.function.Consumer;
import java.util.function.ToIntFunction;

/**
 * A row of calls that makes a city. Since it can be made anew as often as one likes, two cities can be told apart by
 * whatever can be asked, also by calls that change what they ask of, and no object comes to its 513th call.
 */
final class Scene {
    /** Questions to one object: with the calls of the longest scene they stay below 512. */
    private static final int AT_ONCE = 220;
    private static final int[] DAYS = {0, 2, 5, 6, 7, 9, 50, 9999};
    private static final List<ToIntFunction<SherdCity>> QUESTIONS = questions();

    private final Consumer<SherdCity> calls;
    private int[] seen;

    private Scene(Consumer<SherdCity> calls) {
        this.calls = calls;
    }

    static Scene of(Consumer<SherdCity> calls) {
        return new Scene(calls);
    }

    /** This one and more calls. */
    Scene then(Consumer<SherdCity> more) {
        return new Scene(calls.andThen(more));
    }

    SherdCity city() {
        SherdCity c = new SherdCity();
        calls.accept(c);
        return c;
    }

    /** All that can be asked. */
    int[] look() {
        if (seen == null) {
            seen = answers();
        }
        return seen;
    }

    private int[] answers() {
        int[] got = new int[QUESTIONS.size()];
        SherdCity c = null;
        for (int i = 0; i < got.length; i++) {
            if (i % AT_ONCE == 0) {
                c = city();
            }
            got[i] = QUESTIONS.get(i).applyAsInt(c);
        }
        return got;
    }

    boolean isLike(Scene other) {
        return Arrays.equals(look(), other.look());
    }

    private static List<ToIntFunction<SherdCity>> questions() {
        List<ToIntFunction<SherdCity>> q = new ArrayList<>();
        askManyThings(q);
        pad(q);
        askMen(q);
        askCasts(q);
        askSherds(q);
        askCounts(q);
        pad(q);
        askHost(q);
        pad(q);
        askByChanging(q);
        pad(q);
        askWhatIsKept(q);
        pad(q);
        askTheTape(q);
        return q;
    }

    /** The next question goes to a new object. */
    private static void pad(List<ToIntFunction<SherdCity>> q) {
        while (q.size() % AT_ONCE != 0) {
            q.add(c -> 0);
        }
    }

    private static void askManyThings(List<ToIntFunction<SherdCity>> q) {
        for (int i = 0; i < 19; i++) {
            int what = i;
            q.add(c -> c.many(what));
            q.add(c -> c.law(what));
            q.add(c -> c.tallies(what));
            q.add(c -> c.hands(what));
            q.add(c -> c.trace(what));
            q.add(c -> c.row(what, 0));
            q.add(c -> c.row(what, 1));
        }
    }

    private static void askMen(List<ToIntFunction<SherdCity>> q) {
        for (int i = 0; i < 17; i++) {
            int man = i;
            for (int j = 0; j < 8; j++) {
                int what = j;
                q.add(c -> c.of(man, what));
                q.add(c -> c.heard(man, what));
            }
            for (int j = 0; j < 17; j++) {
                int other = j;
                q.add(c -> c.dread(man, other, 0));
                q.add(c -> c.dread(man, other, 9999));
            }
        }
    }

    private static void askCasts(List<ToIntFunction<SherdCity>> q) {
        for (int d : DAYS) {
            for (int i = 0; i < 16; i++) {
                int man = i;
                q.add(c -> c.comes(man, d));
                q.add(c -> c.cast(man, d));
                q.add(c -> c.may(man, d));
                q.add(c -> c.bound(man, d));
            }
        }
    }

    private static void askSherds(List<ToIntFunction<SherdCity>> q) {
        for (int i = 0; i < 41; i++) {
            int sherd = i;
            for (int j = 0; j < 12; j++) {
                int what = j;
                q.add(c -> c.sherdOf(sherd, what));
            }
        }
    }

    private static void askCounts(List<ToIntFunction<SherdCity>> q) {
        for (int d : DAYS) {
            for (int i = 0; i < 7; i++) {
                int what = i;
                q.add(c -> c.count(d, what));
                q.add(c -> c.broken(what, d));
                q.add(c -> c.counted(what, d, false));
                q.add(c -> c.counted(what, d, true));
                q.add(c -> c.beside(what - 1, d));
            }
            q.add(c -> c.keptBy(d));
            q.add(c -> c.turn(0, d));
            q.add(c -> c.judge(d));
            q.add(c -> c.best(d));
        }
    }

    private static void askHost(List<ToIntFunction<SherdCity>> q) {
        for (int i = 0; i < 4; i++) {
            int place = i;
            for (int j = 0; j < 7; j++) {
                int number = j;
                q.add(c -> c.taken(place, number));
                q.add(c -> c.taken(place, 10 + number));
                for (int k = 0; k < 5; k++) {
                    int sort = k;
                    q.add(c -> c.item(place, sort, number == 6 ? 39 : number));
                }
            }
        }
        for (int i = 0; i < 16; i++) {
            int shelf = i / 4;
            int act = i % 4;
            q.add(c -> c.act(shelf, act, 77));
        }
    }

    /** Rules, tallies, styles and laws are told by calls that change them. */
    private static void askByChanging(List<ToIntFunction<SherdCity>> q) {
        q.add(SherdCity::vote);
        for (int i = 0; i < 40; i++) {
            int number = i;
            q.add(c -> c.sherdOf(number, 1));
            q.add(c -> c.sherdOf(number, 2));
        }
        for (int i = 0; i < 4; i++) {
            int number = i;
            q.add(c -> c.rule(number, 0));
            q.add(c -> c.force(number));
            for (int j = 0; j < 5; j++) {
                int what = j;
                q.add(c -> c.law(what));
                q.add(c -> c.tally(number, what, 0));
            }
        }
        for (int i = 0; i < 50; i += 3) {
            int day = i;
            q.add(c -> c.wet(day));
        }
        q.add(SherdCity::clear);
        q.add(SherdCity::send);
    }

    private static void askWhatIsKept(List<ToIntFunction<SherdCity>> q) {
        q.add(SherdCity::again);
        askManyThings(q);
        for (int i = 0; i < 6; i++) {
            int number = i;
            for (int j = 0; j < 8; j++) {
                int what = j;
                q.add(c -> c.of(number, what));
            }
        }
    }

    private static void askTheTape(List<ToIntFunction<SherdCity>> q) {
        q.add(c -> c.feed(' ', 1));
        q.add(c -> c.read(3));
        q.add(c -> c.force(3));
        for (int i = 0; i < 5; i++) {
            int what = i;
            q.add(c -> c.law(what));
        }
        q.add(c -> c.days(1));
        for (int i = 0; i < 16; i++) {
            int man = i;
            q.add(c -> c.heard(man, 0));
        }
    }
}
