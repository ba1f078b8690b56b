/** Promises 43 to 46: what the document says of their edges. */
public final class EdgeHeapTest {
    private static final int BAD = SherdCity.BAD, FULL = SherdCity.FULL, STATE = SherdCity.STATE;
    private static final Edge edge = new Edge();

    public static void main(String[] args) {
        promise43();
        promise44();
        promise45();
        promise46();
        parts();
        heapedAnew();
        thrownOnes();
        hired();
        edge.end();
    }

    /** Sherds of these hands, all of them on the heap, through the gates 0, 1 .. 4, 0 .. */
    private static Scene heaped(int... hands) {
        return Scenes.NEW.then(c -> {
            for (int i = 0; i < hands.length; i++) {
                c.heap(c.sherd(1, 0, -1, i % 5, 0, hands[i]));
            }
        });
    }

    private static void promise43() {
        edge.refused("BAD: there is none such, without any", Scenes.NEW, c -> c.heap(0), BAD);
        edge.refusesOutside("BAD: there is none such", Scenes.BUSY, 0, 6, BAD, SherdCity::heap);
        edge.answers("the last SHERD", Scenes.BUSY, c -> c.heap(6), 4);
        edge.refused("STATE: it is there", Scenes.BUSY, c -> c.heap(0), STATE);
        Scene eight = heaped(0, 0, 0, 0, 0, 0, 0, 0).then(c -> c.sherd(1, 0, -1, -1, 0, 0)).then(c -> c.sherd(1, 0, -1, -1, 0, 0));
        edge.answers("9 at most: the ninth", eight, c -> c.heap(9), 9);
        edge.refused("FULL: the tenth", eight.then(c -> c.heap(9)), c -> c.heap(8), FULL);
        edge.refused("FULL", Scenes.FULL, c -> c.heap(0), FULL);
        edge.refused("STATE is named ahead of FULL", Scenes.FULL, c -> c.heap(3), STATE);
        edge.refused("STATE is named ahead of FULL, for the last", Scenes.FULL, c -> c.heap(35), STATE);
        edge.refusesOutside("BAD is named ahead of FULL", Scenes.FULL, 0, 39, BAD, SherdCity::heap);
        edge.answers("a SHERD that is THROWN may come", Scenes.BUSY, c -> c.heap(2), 4);
    }

    private static void promise44() {
        edge.changesNothing("an empty HEAP", Scenes.NEW, SherdCity::clear);
        edge.answers("how many it had: none", Scenes.NEW, SherdCity::clear, 0);
        edge.answers("how many it had: 9", Scenes.FULL, SherdCity::clear, 9);
        edge.answers("THE HEAP is empty", Scenes.FULL.then(SherdCity::clear), c -> c.many(8), 0);
        edge.answers("so there is room", Scenes.FULL.then(SherdCity::clear), c -> c.heap(3), 1);
        edge.answers("and none is there", Scenes.FULL.then(SherdCity::clear), c -> c.hands(10), BAD);
        edge.answers("SHERDS are there still", Scenes.FULL.then(SherdCity::clear), c -> c.many(5), 40);
    }

    private static void promise45() {
        edge.refused("BAD: there is none such, without any", Scenes.NEW, c -> c.alike(0, 0), BAD);
        edge.takes("BAD: there is none such", Scenes.BUSY, 0, 6, BAD, (c, v) -> c.alike(v, 0));
        edge.takes("BAD: there is none such (the other)", Scenes.BUSY, 0, 6, BAD, (c, v) -> c.alike(0, v));
        edge.answers("SLACK is 4 at first", heaped(1111, 2222), c -> c.alike(0, 1), 1);
        edge.answers("5 is above it", heaped(1111, 2223), c -> c.alike(0, 1), 0);
        edge.answers("each digit for itself: 1000 and 0999", heaped(1000, 999), c -> c.alike(0, 1), 0);
        edge.answers("the first digit counts as much as the last", heaped(4000, 0), c -> c.alike(0, 1), 1);
        for (int slack = 0; slack <= 36; slack += 4) {
            int[] hands = {slack / 4 * 1111, 0};
            int s = slack;
            edge.answers("SLACK " + s + ": they differ by it", heaped(hands).then(c -> c.rule(3, s)), c -> c.alike(0, 1), 1);
            if (slack > 0) {
                edge.answers("SLACK " + (s - 1), heaped(hands).then(c -> c.rule(3, s - 1)), c -> c.alike(1, 0), 0);
            }
        }
        edge.answers("itself, with SLACK 0", heaped(9999).then(c -> c.rule(3, 0)), c -> c.alike(0, 0), 1);
        edge.answers("READY is no digit", heaped(5, 10005).then(c -> c.rule(3, 0)), c -> c.alike(0, 1), 1);
    }

    private static void promise46() {
        for (Scene scene : new Scene[] {Scenes.NEW, Scenes.BUSY, Scenes.FULL}) {
            for (int what : new int[] {-1, 2, 3, 8, 9, Integer.MIN_VALUE, Integer.MAX_VALUE}) {
                edge.refused("another what: " + what, scene, c -> c.hands(what), BAD);
            }
        }
        edge.refused("no such SHERD in an empty HEAP", Scenes.NEW, c -> c.hands(10), BAD);
        edge.takes("no such SHERD", Scenes.BUSY, 10, 12, BAD, SherdCity::hands);
        edge.refused("no such SHERD behind three", Scenes.BUSY, c -> c.hands(13), BAD);
        edge.answers("the last of nine", heaped(0, 0, 0, 0, 0, 0, 0, 0, 9999), c -> c.hands(18), 1);
        edge.refused("no such SHERD behind nine", Scenes.FULL, c -> c.hands(19), BAD);
        edge.answers("no parts of none", Scenes.NEW, c -> c.hands(0), 0);
        edge.answers("none HIRED of none", Scenes.NEW, c -> c.hands(1), 0);
    }

    private static void parts(String sentence, Scene scene, int howMany, int... parts) {
        SherdCity c = scene.city();
        edge.is(sentence + ": how many parts", c.hands(0), howMany);
        for (int i = 0; i < parts.length; i++) {
            edge.is(sentence + ": the part of " + i, c.hands(10 + i), parts[i]);
        }
    }

    private static void parts() {
        parts("one", heaped(1234), 1, 0);
        parts("nine ALIKE", heaped(0, 1, 2, 3, 10, 11, 12, 13, 22), 1, 0, 0, 0, 0, 0, 0, 0, 0, 0);
        Scene apart = heaped(0, 5, 50, 500, 5000, 55, 550, 5500, 5005);
        parts("nine of which no two are ALIKE", apart, 9, 0, 1, 2, 3, 4, 5, 6, 7, 8);
        parts("each two, not each with its neighbour", heaped(0, 3, 6, 9), 2, 0, 0, 1, 1);
        parts("of several the first SHERD has the lesser part", heaped(4, 0, 8, 2), 2, 0, 0, 1, 0);
        parts("parts are numbered as their first SHERD comes", heaped(9, 0, 5), 2, 0, 1, 0);
        parts("the fewest, though the first two are ALIKE", heaped(4, 2, 0, 6, 8).then(c -> c.rule(3, 4)), 2, 0, 0, 0, 1, 1);
        parts("the fewest parts two that are ALIKE", heaped(3, 6, 0, 9).then(c -> c.rule(3, 3)), 2, 0, 1, 0, 1);
        parts("SLACK 0 parts all that differ", heaped(1, 2, 1, 2).then(c -> c.rule(3, 0)), 2, 0, 1, 0, 1);
        parts("SLACK 36 parts nothing", heaped(0, 9999, 90, 9).then(c -> c.rule(3, 36)), 1, 0, 0, 0, 0);
        parts("SLACK 35 parts the two that are 36 apart", heaped(0, 9999, 90, 9).then(c -> c.rule(3, 35)), 2, 0, 1, 0, 0);
    }

    /** THROWN SHERDS are SHERDS of THE HEAP as before. */
    private static void thrownOnes() {
        Scene heap = heaped(0, 0, 0, 9999);
        for (int sherd = 0; sherd < 4; sherd++) {
            int s = sherd;
            Scene thrown = heap.then(c -> c.thrown(s));
            edge.answers("a SHERD of THE HEAP may be THROWN", heap, c -> c.thrown(s), 1);
            edge.answers("how many it has", thrown, c -> c.many(8), 4);
            edge.refused("it is there", thrown, c -> c.heap(s), STATE);
            parts("THROWN", thrown, 2, 0, 0, 0, 1);
            edge.answers("HIRED", thrown, c -> c.hands(1), 1);
            edge.answers("ALIKE", thrown, c -> c.alike(s, (s + 1) % 3), s < 3 ? 1 : 0);
            Scene late = heap.then(SherdCity::clear).then(c -> c.thrown(s)).then(c -> c.heap(s));
            edge.answers("one that was THROWN comes to THE HEAP", late, c -> c.hands(10), 0);
        }
    }

    /** What THE HEAP had ahead of clear() doesn't matter. */
    private static void heapedAnew() {
        SherdCity c = heaped(0, 1, 2, 3, 9999, 9998, 5000, 5, 50).city();
        edge.is("a HEAP of nine", c.hands(0), 5);
        c.clear();
        c.heap(4);
        c.heap(0);
        c.heap(5);
        edge.is("three of them, in another order", c.hands(0), 2);
        edge.is("the part of the first", c.hands(10), 0);
        edge.is("the part of the second", c.hands(11), 1);
        edge.is("the part of the third", c.hands(12), 0);
        edge.is("no part of a fourth", c.hands(13), BAD);
        c.rule(3, 0);
        edge.is("SLACK as it is now", c.hands(0), 3);
    }

    private static void hired() {
        edge.answers("2 SHERDS are too few", heaped(0, 0), c -> c.hands(1), 0);
        edge.answers("3 SHERDS through three GATES", heaped(0, 0, 0), c -> c.hands(1), 1);
        edge.answers("one GATE is too few", gates(0, 0, 0), c -> c.hands(1), 0);
        for (int i = 0; i < 5; i++) {
            int gate = i;
            edge.answers("one GATE: " + gate, gates(gate, gate, gate), c -> c.hands(1), 0);
            edge.answers("one GATE and none: " + gate, gates(gate, -1, gate, -1), c -> c.hands(1), 0);
            edge.answers("and another: " + gate, gates(gate, gate, (gate + 1) % 5), c -> c.hands(1), 1);
        }
        edge.answers("none at all", gates(-1, -1, -1), c -> c.hands(1), 0);
        edge.answers("two GATES", gates(4, 4, 0), c -> c.hands(1), 1);
        edge.answers("none is no GATE", gates(-1, 0, 0), c -> c.hands(1), 0);
        edge.answers("none is no GATE, but it is a SHERD", gates(-1, 0, 1), c -> c.hands(1), 1);
        edge.answers("three parts of nine", heaped(0, 0, 0, 500, 500, 500, 5000, 5000, 5000), c -> c.hands(1), 3);
        edge.answers("of parts of 2 none", heaped(0, 0, 500, 500, 5000, 5000, 5500, 5500), c -> c.hands(1), 0);
    }

    private static Scene gates(int... gates) {
        return Scenes.NEW.then(c -> {
            for (int gate : gates) {
                c.heap(c.sherd(1, 0, -1, gate, 0, 0));
            }
        });
    }
}
