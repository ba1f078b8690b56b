import com.sun.management.ThreadMXBean;
import java.lang.management.ManagementFactory;
import java.util.function.ToIntFunction;

/** What calls leave in the one room that all calls of a run share: nothing but a sheet's row, and once what is kept. */
public final class RoomTest {
    private static final int CALLS = 400;
    private static final Due due = new Due();
    private static final ThreadMXBean THREADS = (ThreadMXBean) ManagementFactory.getThreadMXBean();

    public static void main(String[] args) {
        if (!THREADS.isThreadAllocatedMemorySupported()) {
            System.out.println("this machine doesn't tell what is made");
            return;
        }
        THREADS.setThreadAllocatedMemoryEnabled(true);
        calls();
        reckoning();
        laws();
        due.holds("a row of 40 longs, each time", made(Scenes.FULL, c -> c.sheet(0, 3, 40)) <= CALLS * 400L);
        due.holds("a city is kept once", made(Scenes.NEW, SherdCity::keep) <= 64 * 1024);
        nothing("kept anew", Scenes.FULL, SherdCity::keep);
        nothing("again", Scenes.FULL, SherdCity::again);
        long before = THREADS.getThreadAllocatedBytes(Thread.currentThread().getId());
        SherdCity city = new SherdCity();
        long after = THREADS.getThreadAllocatedBytes(Thread.currentThread().getId());
        due.holds("a new object", after - before <= 64 * 1024 && city.many(0) == 0);
        due.end();
    }

    /** How many bytes so many calls make, once all that they need is there. */
    private static long made(Scene scene, ToIntFunction<SherdCity> call) {
        call.applyAsInt(scene.city());
        SherdCity city = scene.city();
        long id = Thread.currentThread().getId();
        long before = THREADS.getThreadAllocatedBytes(id);
        for (int i = 0; i < CALLS; i++) {
            call.applyAsInt(city);
        }
        return THREADS.getThreadAllocatedBytes(id) - before;
    }

    private static void nothing(String sentence, Scene scene, ToIntFunction<SherdCity> call) {
        due.holds(sentence + " makes nothing", made(scene, call) < 1024);
    }

    private static void calls() {
        for (Scene scene : new Scene[] {Scenes.NEW, Scenes.BUSY, Scenes.FULL}) {
            nothing("days", scene, c -> c.days(1));
            nothing("wet", scene, c -> c.wet(c.many(6) + 50));
            nothing("ward", scene, c -> c.ward(1, 1));
            nothing("harvest", scene, c -> c.harvest(1, 1, 2));
            nothing("man", scene, c -> c.man(0, 0, 29, 1));
            nothing("style", scene, c -> c.style(1, 1, 1));
            nothing("fear", scene, c -> c.fear(0, 1, 2));
            nothing("word", scene, c -> c.word(0, 1, 2));
            nothing("heard", scene, c -> c.heard(0, 1));
            nothing("rule", scene, c -> c.rule(1, 2));
            nothing("of", scene, c -> c.of(1, 6));
            nothing("bargain", scene, c -> c.bargain(1, 1, 0, 5));
            nothing("sherd", scene, c -> c.sherd(29, 1, 0, 1, 0, 77));
            nothing("vote", scene, SherdCity::vote);
            nothing("thrown", scene, c -> c.thrown(c.many(5) - 1));
            nothing("apart", scene, c -> c.apart(387420488, 14900788));
            nothing("tally", scene, c -> c.tally(1, 1, 5));
            nothing("send", scene, SherdCity::send);
            nothing("recall", scene, c -> c.recall(1, 1, 1));
            nothing("may", scene, c -> c.may(1, 6));
            nothing("row", scene, c -> c.row(1, 1));
            nothing("alterRow", scene, c -> c.alterRow(1, 1, 1));
            nothing("heap", scene, c -> c.heap(c.many(8)));
            nothing("clear", scene, SherdCity::clear);
            nothing("put", scene, c -> c.put(0, 1, 7));
            nothing("item", scene, c -> c.item(0, 2, 1));
            nothing("comesFrom", scene, c -> c.comesFrom(2, 1));
            nothing("shelf", scene, c -> c.shelf(0, 3, 1));
            nothing("taken", scene, c -> c.taken(1, 4));
            nothing("trace", scene, c -> c.trace(0));
            nothing("many", scene, c -> c.many(13));
        }
    }

    private static void reckoning() {
        for (Scene scene : new Scene[] {Scenes.NEW, Scenes.BUSY, Scenes.FULL}) {
            nothing("dread", scene, c -> c.dread(0, 1, 5));
            nothing("bound", scene, c -> c.bound(0, 5));
            nothing("comes", scene, c -> c.comes(0, 5));
            nothing("cast", scene, c -> c.cast(0, 5));
            nothing("sherdOf", scene, c -> c.sherdOf(0, 11));
            nothing("count", scene, c -> c.count(0, 6));
            nothing("counted", scene, c -> c.counted(1, 0, true));
            nothing("tallies", scene, c -> c.tallies(2));
            nothing("beside", scene, c -> c.beside(1, 5));
            nothing("keptBy", scene, c -> c.keptBy(5));
            nothing("broken", scene, c -> c.broken(1, 0));
            nothing("turn", scene, c -> c.turn(1, 5));
            nothing("prove", scene, c -> c.prove(5));
            nothing("judge", scene, c -> c.judge(5));
            nothing("best", scene, c -> c.best(5));
            nothing("alike", scene, c -> c.alike(0, 1));
            nothing("hands", scene, c -> c.hands(1));
            for (int act = 0; act < 4; act++) {
                int a = act;
                nothing("act", scene, c -> c.act(1, a, 9));
            }
        }
    }

    private static void laws() {
        Scene long_ = Scenes.FULL.then(c -> c.read(0));
        nothing("feed", long_, c -> c.feed(0x3b31_2079_616dL, 6));
        nothing("read", long_, c -> c.feed(0x3b31_2079_616dL, 6) + c.read(1));
        nothing("read with a FAULT", long_, c -> c.feed(0x3b3b_2079_616dL, 6) + c.read(1));
        nothing("force", long_, c -> c.force(2));
        nothing("law", long_, c -> c.law(2));
    }
}
