/** Promises 47 to 55: the host. */
public final class HostTest {
    private static final Due due = new Due();

    public static void main(String[] args) {
        sheet();
        put();
        item();
        comesFrom();
        shelf();
        taken();
        acts();
        partedByZero();
        nothingActs();
        many();
        due.end();
    }

    private static void sheet() {
        SherdCity c = new SherdCity();
        due.is("sheet -1", c.sheet(-1, 0, 1), -1);
        due.is("sheet 4", c.sheet(4, 0, 1), -1);
        due.is("sheet 4, missing", c.sheet(4, -1, 1), -1);
        due.is("sort 5", c.sheet(0, 5, 1), -1);
        due.is("sort -2", c.sheet(0, -2, 1), -1);
        due.is("n 41", c.sheet(0, 0, 41), -1);
        due.is("n -1", c.sheet(0, 0, -1), -14);
        due.is("sort, ahead of n", c.sheet(0, 5, -1), -1);
        due.is("n 40", c.sheet(0, 0, 40), 1);
        due.is("n 0", c.sheet(1, 4, 0), 1);
        due.is("nothing in it", c.item(1, 4, 0), -12);
        due.is("the last item", c.item(0, 0, 39), 0);
        due.is("a refusal changes nothing", c.sheet(0, 0, -1), -14);
        due.is("the last item still", c.item(0, 0, 39), 0);
        c.put(0, 3, 7);
        due.is("anew", c.sheet(0, 0, 40), 1);
        due.is("all 0", c.item(0, 0, 3), 0);
        due.is("missing, whatever n", c.sheet(0, -1, Integer.MAX_VALUE), 1);
        due.is("missing", c.put(0, 0, 0), -11);
    }

    private static void put() {
        SherdCity c = new SherdCity();
        due.is("sheet 4", c.put(4, 0, 1), -1);
        due.is("sheet -1", c.put(-1, 0, 1), -1);
        due.is("missing, ahead of outside", c.put(0, -1, 1), -11);
        int[] values = {0, 1, -1, 127, 128, 255, 256, -129, 32767, 32768, 65536, Integer.MAX_VALUE, Integer.MIN_VALUE};
        for (int sort = 0; sort < 5; sort++) {
            c.sheet(0, sort, 2);
            due.is("outside", c.put(0, 2, 1), -12);
            due.is("below", c.put(0, -1, 1), -12);
            for (int v : values) {
                int want = sort == 0 ? (byte) v : sort == 1 ? (short) v : sort == 4 ? (v != 0 ? 1 : 0) : v;
                due.is("put", c.put(0, 1, v), 1);
                due.is("narrowed " + v + " to " + sort, c.item(0, sort, 1), want);
                due.is("the other", c.item(0, sort, 0), 0);
            }
        }
    }

    private static void item() {
        SherdCity c = new SherdCity();
        due.is("sheet 4", c.item(4, 0, 0), -1);
        due.is("sort 5", c.item(0, 5, 0), -1);
        due.is("sort -1", c.item(0, -1, 0), -1);
        due.is("missing", c.item(0, 0, 0), -11);
        c.sheet(0, 3, 1);
        for (int sort = 0; sort < 5; sort++) {
            due.is("taken for " + sort, c.item(0, sort, 0), sort == 3 ? 0 : -13);
            due.is("sort ahead of place, for " + sort, c.item(0, sort, 1), sort == 3 ? -12 : -13);
        }
        due.is("below", c.item(0, 3, -1), -12);
        c.sheet(3, 2, 1);
        c.put(3, 0, -13);
        due.is("an item as low as a refusal, on the last sheet", c.item(3, 2, 0), -13);
    }

    private static void comesFrom() {
        SherdCity c = new SherdCity();
        c.ward(0, 0);
        due.is("sheet 4", c.comesFrom(4, 0), -1);
        due.is("missing", c.comesFrom(0, 0), -11);
        c.sheet(0, 3, 20);
        due.is("longs", c.comesFrom(0, 0), -13);
        due.is("longs, ahead of outside", c.comesFrom(0, 99), -13);
        c.sheet(0, 2, 8);
        due.is("below", c.comesFrom(0, -1), -12);
        due.is("the sixth is outside", c.comesFrom(0, 3), -12);
        due.is("far outside", c.comesFrom(0, Integer.MAX_VALUE), -12);
        due.is("no name there", c.comesFrom(0, 2), -1);
        int[] told = {Due.name("ab"), Due.name("c"), 0, 3, Due.name("d"), 14321};
        for (int i = 0; i < 6; i++) {
            c.put(0, 2 + i, told[i]);
        }
        due.is("comes", c.comesFrom(0, 2), 0);
        int[] want = {told[0], told[1], 0, 3, told[4], 1, 4321};
        for (int what = 0; what < want.length; what++) {
            due.is("of it " + what, c.sherdOf(0, what), want[what]);
        }
        for (int i = 1; i < 40; i++) {
            due.is("comes", c.comesFrom(0, 2), i);
        }
        due.is("full", c.comesFrom(0, 2), -2);
        c.sheet(1, 2, 5);
        due.is("too short", c.comesFrom(1, 0), -12);
        due.is("the last sheet", c.comesFrom(3, 0), -11);
    }

    private static void shelf() {
        SherdCity c = new SherdCity();
        c.ward(0, 0);
        Due.man(c, 0, "ab");
        due.is("shelf 4", c.shelf(4, 4, 0), -1);
        due.is("shelf -1", c.shelf(-1, 4, 0), -1);
        due.is("what 5", c.shelf(0, 5, 0), -1);
        due.is("what -1", c.shelf(0, -1, 0), -1);
        due.is("no sherd", c.shelf(0, 0, 0), -1);
        due.is("no bargain", c.shelf(0, 1, 0), -1);
        due.is("no man", c.shelf(0, 2, 1), -1);
        due.is("no sheet", c.shelf(0, 3, 4), -1);
        due.is("nothing, whatever n", c.shelf(0, 4, -77), 1);
        due.is("a missing sheet", c.shelf(0, 3, 3), 1);
        due.is("is nothing", c.taken(0, 10), -11);
        c.sheet(3, 1, 9);
        due.is("nothing still", c.taken(0, 11), -11);
        due.is("a sheet", c.shelf(0, 3, 3), 1);
        c.sheet(3, 2, 5);
        due.is("that row, whatever becomes of the sheet", c.taken(0, 11), 9);
        c.sheet(3, -1, 0);
        due.is("that row still", c.taken(0, 11), 9);
        due.is("a refusal changes nothing", c.shelf(0, 0, 5), -1);
        due.is("that row even then", c.taken(0, 11), 9);
        due.is("a man", c.shelf(0, 2, 0), 1);
        due.is("never sent is nothing", c.taken(0, 0), -11);
    }

    private static void taken() {
        SherdCity c = new SherdCity();
        c.ward(0, 0);
        Due.man(c, 0, "ab");
        Due.sherd(c, "ab", 0);
        c.sherd(Due.name("ab"), 0, -1, -1, 0, 10000);
        c.sherd(Due.name("ab"), 0, -1, -1, 1, 10000);
        c.bargain(0, 0, 0, 9);
        due.is("shelf 4", c.taken(4, 0), -1);
        due.is("shelf -1", c.taken(-1, 0), -1);
        for (int as : new int[] {-1, 7, 8, 9, 15}) {
            due.is("as " + as, c.taken(0, as), -1);
        }
        c.shelf(0, 0, 0);
        kinds(c, 0, "a sherd", 0, 1);
        c.shelf(0, 0, 1);
        kinds(c, 1, "ready", 0, 1, 2);
        c.shelf(0, 0, 2);
        kinds(c, 2, "void by its second name", 0, 1, 3);
        int s = Due.sherd(c, "zzz", 0);
        c.shelf(0, 0, s);
        kinds(c, s, "void by nobody", 0, 1, 3);
        c.man(0, 0, Due.name("zzz"), 1);
        kinds(c, s, "as it is now", 0, 1);
        c.shelf(0, 1, 0);
        kinds(c, 0, "a bargain", 0, 4);
        c.shelf(0, 2, 0);
        due.is("nothing, ahead of kinds", c.taken(0, 14), -11);
        c.send();
        kinds(c, 0, "sent", 0, 5);
        c.recall(0, 1, 1);
        kinds(c, 0, "a recall", 0, 5, 6);
        c.send();
        kinds(c, 0, "sent anew", 0, 5);
        for (int sort = 0; sort < 5; sort++) {
            c.sheet(0, sort, 7 + sort);
            c.shelf(0, 3, 0);
            kinds(c, 7 + sort, "a row", 10 + sort);
        }
        c.shelf(0, 4, 0);
        for (int as = 0; as < 15; as++) {
            due.is("nothing as " + as, c.taken(0, as), as >= 7 && as < 10 ? -1 : -11);
        }
    }

    private static void kinds(SherdCity c, int number, String about, int... as) {
        for (int k = 0; k < 15; k++) {
            int want = k >= 7 && k < 10 ? -1 : -13;
            for (int a : as) {
                want = a == k ? number : want;
            }
            due.is(about + " as " + k, c.taken(0, k), want);
        }
    }

    private static void ran(SherdCity c, String about, int act, int x, int answer, int... bodies) {
        due.is(about + " act " + act, c.act(0, act, x), answer);
        for (int i = 0; i < bodies.length; i++) {
            due.is(about + " act " + act + " body " + i, c.trace(i), bodies[i]);
        }
        due.is(about + " act " + act + " bodies", c.many(10), bodies.length);
        due.is(about + " act " + act + " behind", c.trace(bodies.length), -3);
        due.is("trace -1", c.trace(-1), -3);
    }

    private static void acts() {
        SherdCity c = new SherdCity();
        c.ward(0, 0);
        Due.man(c, 0, "zz");
        Due.man(c, 0, "ab");
        c.sherd(Due.name("ab"), 0, -1, 0, 0, 0);
        c.sherd(Due.name("ab"), 0, -1, 0, 0, 7);
        c.shelf(0, 0, 1);
        ran(c, "sherd", 0, 10, 11, 10);
        ran(c, "sherd", 1, 10, 22 ^ 7, 20, 11, 10);
        ran(c, "sherd", 2, 10, (22 ^ 7) - 7, 12, 20, 11, 10);
        ran(c, "sherd", 3, -20, -20 / 6 + 1, 21, 13);
        c.sherd(Due.name("ab"), 0, -1, 0, 0, 10005);
        c.shelf(0, 0, 2);
        ran(c, "ready", 0, 10, 36, 30, 10);
        ran(c, "ready", 1, 10, 72 ^ 5, 20, 11, 30, 10);
        ran(c, "ready", 2, 10, (72 ^ 5) - 5, 12, 20, 11, 30, 10);
        ran(c, "ready", 3, 10, 4, 21, 13);
        c.sherd(Due.name("ab"), 0, -1, 0, 1, 10009);
        c.shelf(0, 0, 3);
        ran(c, "void", 0, 10, 13, 10);
        ran(c, "void", 1, 10, -(26 ^ 9), 40, 20, 11, 10);
        ran(c, "void", 2, 10, -(26 ^ 9) - 9 + 5, 41, 12, 40, 20, 11, 10, 10);
        ran(c, "void", 3, 13, 3, 21, 13);
        c.bargain(4, 1, 0, 0);
        c.bargain(4, 1, 0, 0);
        c.shelf(0, 1, 1);
        ran(c, "bargain", 0, 10, 10, 51, 10);
        ran(c, "bargain", 1, 10, 20, 11, 51, 10);
        ran(c, "bargain", 2, 10, 32, 50, 12, 11, 51, 10);
        ran(c, "bargain", 3, 10, 3, 13);
        c.days(4);
        c.send();
        c.shelf(0, 2, 1);
        ran(c, "sent", 0, 10, 11, 10);
        ran(c, "sent", 1, 10, 22, 11, 10);
        ran(c, "sent", 2, 10, 18, 12, 11, 10);
        ran(c, "sent", 3, 10, 5 - 11, 60, 13, 10);
        c.recall(1, 1, 1);
        ran(c, "recall", 0, 10, 11, 10);
        ran(c, "recall", 1, 10, 22, 11, 10);
        ran(c, "recall", 2, 10, 17, 70, 12, 11, 10);
        ran(c, "recall", 3, 10, 6, 71, 60, 13, 10);
        ran(c, "wraps", 1, Integer.MAX_VALUE, 0, 11, 10);
        ran(c, "wraps", 0, Integer.MAX_VALUE, Integer.MIN_VALUE, 10);
    }

    private static void partedByZero() {
        SherdCity c = new SherdCity();
        c.ward(0, 0);
        Due.man(c, 0, "ab");
        c.shelf(0, 2, 0);
        Due.sherd(c, "ab", 0);
        c.send();
        ran(c, "sent on day 0", 3, 5, -15, 60, 13);
        c.recall(0, 1, 1);
        ran(c, "recalled", 3, 5, -15, 71, 60, 13);
        ran(c, "the other acts go", 2, 5, 9, 70, 12, 11, 10);
        c.shelf(0, 0, 0);
        ran(c, "a sherd of hand 0", 3, 5, -15, 21, 13);
        c.bargain(0, 0, 0, 0);
        c.shelf(0, 1, 0);
        ran(c, "a bargain of club 0", 3, 5, -15, 13);
        c.bargain(0, 0, 0, 0);
        c.shelf(0, 1, 1);
        ran(c, "by -1", 3, Integer.MIN_VALUE, Integer.MIN_VALUE, 13);
    }

    private static void nothingActs() {
        SherdCity c = new SherdCity();
        c.ward(0, 0);
        Due.man(c, 0, "ab");
        Due.sherd(c, "ab", 0);
        c.shelf(0, 0, 0);
        c.shelf(1, 2, 0);
        c.sheet(0, 0, 1);
        c.shelf(2, 3, 0);
        int[][] calls = {{3, 0}, {1, 0}, {2, 0}, {4, 0}, {-1, 0}, {0, 4}, {0, -1}};
        for (int[] call : calls) {
            due.is("acts", c.act(0, 0, 5), 5);
            due.is("a body ran", c.many(10), 1);
            due.is("act " + call[0] + " " + call[1], c.act(call[0], call[1], 5), 0);
            due.is("no body ran", c.many(10), 0);
            due.is("no trace", c.trace(0), -3);
        }
    }

    private static void many() {
        SherdCity c = new SherdCity();
        c.days(3);
        c.wet(3);
        c.wet(4);
        c.ward(0, 300);
        c.ward(0, 0);
        for (int i = 0; i < 4; i++) {
            c.man(i == 0 ? 0 : 1, 0, Due.name("ab") + i, 1);
        }
        for (int i = 0; i < 5; i++) {
            c.word(0, 1, 0);
        }
        for (int i = 0; i < 6; i++) {
            c.bargain(0, 0, 0, 0);
        }
        for (int i = 0; i < 7; i++) {
            c.heap(Due.sherd(c, "ab", 0));
        }
        Due.sherd(c, "ab", 0);
        c.prove(0);
        c.read(2);
        c.force(2);
        Due.feed(c, "good na");
        c.shelf(0, 1, 1);
        c.act(0, 1, 1);
        int[] want = {3, 2, 4, 5, 6, 8, 2, 4, 7, 7, 3, 2, 0, 3};
        for (int what = 0; what < want.length; what++) {
            due.is("many " + what, c.many(what), want[what]);
        }
        due.is("send", c.send(), 0);
        due.is("many sent", c.many(12), 1);
        due.is("many come", c.many(13), 3);
        due.is("many 14", c.many(14), -1);
        due.is("many -1", c.many(-1), -1);
    }
}
