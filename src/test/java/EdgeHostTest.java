/** Promises 47 to 55: what the document says of their edges. */
public final class EdgeHostTest {
    private static final int BAD = SherdCity.BAD, FULL = SherdCity.FULL, NONE = SherdCity.NONE;
    private static final int NOTHING = -11, OUTSIDE = -12, OTHER = -13, BELOW = -14, PARTED = -15;
    private static final int MIN = Integer.MIN_VALUE, MAX = Integer.MAX_VALUE;
    private static final Edge edge = new Edge();

    public static void main(String[] args) {
        promise47();
        promise48();
        narrowed();
        promise49();
        promise50();
        whatComesFromItems();
        promise51();
        theRowItself();
        promise52();
        asItIsNow();
        promise53();
        intsThatWrap();
        parted();
        promise54();
        promise55();
        edge.end();
    }

    /** SHEET 0 of so many of a sort. */
    private static Scene sheet(int sort, int n) {
        return Scenes.NEW.then(c -> c.sheet(0, sort, n));
    }

    private static void promise47() {
        for (Scene scene : new Scene[] {Scenes.NEW, Scenes.BUSY, Scenes.FULL}) {
            edge.takes("no such SHEET", scene, 0, 3, BAD, (c, v) -> c.sheet(v, 0, 1));
            edge.takes("no such SHEET, missing", scene, 0, 3, BAD, (c, v) -> c.sheet(v, -1, 1));
            edge.takes("no such sort", scene, -1, 4, BAD, (c, v) -> c.sheet(0, v, 1));
            for (int n : new int[] {41, 42, MAX}) {
                edge.refused("n above 40", scene, c -> c.sheet(0, 0, n), BAD);
            }
            for (int n : new int[] {-1, -2, -41, MIN}) {
                edge.refused("-14: a size below 0", scene, c -> c.sheet(0, 4, n), BELOW);
            }
            edge.refused("BAD (SHEET) is named ahead of -14", scene, c -> c.sheet(4, 0, -1), BAD);
            edge.refused("BAD (sort) is named ahead of -14", scene, c -> c.sheet(0, 5, -1), BAD);
        }
        for (int sort = 0; sort < 5; sort++) {
            int s = sort;
            edge.answers("0 are taken", sheet(sort, 0), c -> c.item(0, s, 0), OUTSIDE);
            edge.answers("40 are taken: the last", sheet(sort, 40), c -> c.item(0, s, 39), 0);
            edge.answers("40 are taken: no more", sheet(sort, 40), c -> c.item(0, s, 40), OUTSIDE);
            Scene anew = sheet(sort, 3).then(c -> c.put(0, 2, 1)).then(c -> c.sheet(0, s, 3));
            edge.answers("all 0, also anew", anew, c -> c.item(0, s, 2), 0);
        }
        for (int n : new int[] {0, -1, 41, MIN, MAX}) {
            Scene missing = sheet(2, 3).then(c -> c.sheet(0, -1, n));
            edge.answers("missing; n is not looked at then", sheet(2, 3), c -> c.sheet(0, -1, n), 1);
            edge.answers("missing", missing, c -> c.item(0, 2, 0), NOTHING);
        }
        edge.answers("other SHEETS stay", sheet(2, 3).then(c -> c.sheet(1, 0, 5)), c -> c.put(0, 2, 1), 1);
    }

    private static void promise48() {
        edge.takes("no such SHEET", Scenes.BUSY, 0, 3, BAD, (c, v) -> c.put(v, 0, 1));
        edge.refused("-11: missing", Scenes.NEW, c -> c.put(0, 0, 1), NOTHING);
        edge.refused("BAD is named ahead of -11", Scenes.NEW, c -> c.put(4, 0, 1), BAD);
        edge.refused("-11 is named ahead of -12", Scenes.NEW, c -> c.put(3, -1, 1), NOTHING);
        edge.refused("-11 is named ahead of -12", Scenes.NEW, c -> c.put(3, MAX, 1), NOTHING);
        edge.takes("-12: a place outside", Scenes.BUSY, 0, 7, OUTSIDE, (c, v) -> c.put(0, v, 1));
        edge.takes("-12: a place outside of 40", Scenes.FULL, 0, 39, OUTSIDE, (c, v) -> c.put(3, v, 1));
        for (int sort = 0; sort < 5; sort++) {
            edge.refused("-12: none in a row of 0", sheet(sort, 0), c -> c.put(0, 0, 1), OUTSIDE);
        }
    }

    private static void narrowed() {
        int[] values = {0, 1, -1, 127, 128, 129, 255, 256, 257, -127, -128, -129, -256, 32767, 32768, 65535, 65536, -32768, -32769, MIN, MAX};
        for (int v : values) {
            int[] want = {(byte) v, (short) v, v, v, v != 0 ? 1 : 0};
            for (int sort = 0; sort < 5; sort++) {
                SherdCity c = sheet(sort, 3).city();
                edge.is("1", c.put(0, 1, v), 1);
                edge.is("narrowed to its sort: " + v + ", " + sort, c.item(0, sort, 1), want[sort]);
                edge.is("the one ahead stays", c.item(0, sort, 0), 0);
                edge.is("the one behind stays", c.item(0, sort, 2), 0);
                edge.is("anew", c.put(0, 1, 0), 1);
                edge.is("it becomes 0", c.item(0, sort, 1), 0);
            }
        }
    }

    private static void promise49() {
        edge.takes("no such SHEET", Scenes.BUSY, 0, 3, BAD, (c, v) -> c.item(v, 0, 0));
        edge.takes("no such sort", Scenes.BUSY, 0, 4, BAD, (c, v) -> c.item(0, v, 0));
        edge.refused("-11: missing", Scenes.NEW, c -> c.item(0, 0, 0), NOTHING);
        edge.refused("BAD (SHEET) is named ahead of -11", Scenes.NEW, c -> c.item(4, 0, 0), BAD);
        edge.refused("BAD (sort) is named ahead of -11", Scenes.NEW, c -> c.item(0, 5, 0), BAD);
        edge.refused("BAD (sort) is named ahead of -13", sheet(0, 1), c -> c.item(0, 5, 0), BAD);
        for (int sort = 0; sort < 5; sort++) {
            int s = sort;
            Scene row = sheet(sort, 2);
            for (int as = 0; as < 5; as++) {
                int a = as;
                edge.refused("-11, whatever it is taken for", Scenes.NEW, c -> c.item(0, a, -1), NOTHING);
                if (as != sort) {
                    edge.refused("-13: " + sort + " taken for " + as, row, c -> c.item(0, a, 0), OTHER);
                    edge.refused("-13 is named ahead of -12", row, c -> c.item(0, a, 2), OTHER);
                    edge.refused("-13, also of a row of 0", sheet(sort, 0), c -> c.item(0, a, 0), OTHER);
                }
            }
            edge.takes("-12: a place outside", row, 0, 1, OUTSIDE, (c, v) -> c.item(0, s, v));
            edge.refused("-12: none in a row of 0", sheet(sort, 0), c -> c.item(0, s, 0), OUTSIDE);
        }
        for (int low : new int[] {-1, -11, -12, -13, -14, -15}) {
            edge.answers("an item as low as a refusal", sheet(2, 1).then(c -> c.put(0, 0, low)), c -> c.item(0, 2, 0), low);
        }
    }

    private static void promise50() {
        edge.takes("no such SHEET", Scenes.BUSY, 0, 3, BAD, (c, v) -> v == 0 ? c.comesFrom(0, 9) : c.comesFrom(v, 0));
        edge.refused("-11: missing", Scenes.NEW, c -> c.comesFrom(0, 0), NOTHING);
        edge.refused("-11 is named ahead of -12", Scenes.NEW, c -> c.comesFrom(0, -1), NOTHING);
        edge.refused("BAD is named ahead of -11", Scenes.NEW, c -> c.comesFrom(-1, 0), BAD);
        for (int sort = 0; sort < 5; sort++) {
            if (sort != 2) {
                edge.refused("-13: taken for ints", sheet(sort, 6), c -> c.comesFrom(0, 0), OTHER);
                edge.refused("-13 is named ahead of -12", sheet(sort, 0), c -> c.comesFrom(0, 0), OTHER);
            }
        }
        edge.takes("-12: items i to i + 5", sheet(2, 40), 0, 34, OUTSIDE, (c, v) -> c.comesFrom(0, v));
        edge.takes("-12: items i to i + 5 of six", sheet(2, 6), 0, 0, OUTSIDE, (c, v) -> c.comesFrom(0, v));
        for (int n = 0; n < 6; n++) {
            edge.refused("-12: too few items", sheet(2, n), c -> c.comesFrom(0, 0), OUTSIDE);
            edge.refused("-12 ahead of them", sheet(2, n), c -> c.comesFrom(0, -1), OUTSIDE);
        }
        for (int i : new int[] {MAX, MAX - 4, MAX - 5, MAX - 6, MIN, MIN + 5}) {
            edge.refused("-12: i + 5 doesn't wrap", sheet(2, 40), c -> c.comesFrom(0, i), OUTSIDE);
        }
        edge.refused("-12 is named ahead of what sherd() answers", Scenes.FULL, c -> c.comesFrom(2, 35), OUTSIDE);
    }

    private static Scene told(Scene scene, int at, int... items) {
        return scene.then(c -> {
            c.sheet(0, 2, 40);
            for (int i = 0; i < items.length; i++) {
                c.put(0, at + i, items[i]);
            }
        });
    }

    private static void whatComesFromItems() {
        int ab = Due.name("ab");
        Scene city = Scenes.men(1).then(c -> c.ward(4, 0));
        for (int at : new int[] {0, 34}) {
            Scene comes = told(city, at, ab, 3, 1, 4, 5, 19999);
            edge.answers("what that answers", comes, c -> c.comesFrom(0, at), 0);
            edge.tells("what sherd() is told, in its order", comes.then(c -> c.comesFrom(0, at)).city(), (c, v) -> c.sherdOf(0, v),
                ab, 3, 1, 4, 5, 1, 9999, 0, NONE, 0, 0, 0);
            edge.answers("the SHEET stays", comes.then(c -> c.comesFrom(0, at)), c -> c.item(0, 2, at + 5), 19999);
        }
        int[] right = {ab, 3, 1, 4, 5, 19999};
        int[][] wrong = {{0, 27, -1}, {27, -1}, {2, -2}, {5, -2}, {27, -1}, {20000, -1}};
        for (int i = 0; i < 6; i++) {
            for (int w : wrong[i]) {
                int[] items = right.clone();
                items[i] = w;
                edge.refused("BAD, as sherd() answers", told(city, 7, items), c -> c.comesFrom(0, 7), BAD);
            }
        }
        edge.refused("FULL, as sherd() answers", told(Scenes.FULL, 0, right), c -> c.comesFrom(0, 0), FULL);
        edge.refused("BAD ahead of FULL, as sherd() answers", told(Scenes.FULL, 0, 0, 3, 1, 4, 5, 1), c -> c.comesFrom(0, 0), BAD);
    }

    private static void promise51() {
        edge.takes("no such SHELF", Scenes.BUSY, 0, 3, BAD, (c, v) -> c.shelf(v, 0, 0));
        edge.takes("no such SHELF, for nothing", Scenes.NEW, 0, 3, BAD, (c, v) -> c.shelf(v, 4, 0));
        edge.takes("no such what", Scenes.BUSY, 0, 4, BAD, (c, v) -> c.shelf(3, v, 0));
        edge.takes("no such SHERD", Scenes.BUSY, 0, 6, BAD, (c, v) -> c.shelf(0, 0, v));
        edge.takes("no such SHERD of 40", Scenes.FULL, 0, 39, BAD, (c, v) -> c.shelf(0, 0, v));
        edge.takes("no such BARGAIN", Scenes.BUSY, 0, 1, BAD, (c, v) -> c.shelf(0, 1, v));
        edge.takes("no such BARGAIN of 8", Scenes.FULL, 0, 7, BAD, (c, v) -> c.shelf(0, 1, v));
        edge.takes("no such MAN", Scenes.BUSY, 0, 4, BAD, (c, v) -> c.shelf(0, 2, v));
        edge.takes("no such MAN of 16", Scenes.FULL, 0, 15, BAD, (c, v) -> c.shelf(0, 2, v));
        edge.takes("no such SHEET", Scenes.NEW, 0, 3, BAD, (c, v) -> c.shelf(0, 3, v));
        edge.takes("no such SHEET", Scenes.FULL, 0, 3, BAD, (c, v) -> c.shelf(0, 3, v));
        for (int what = 0; what < 3; what++) {
            int w = what;
            edge.refused("no such thing, without any", Scenes.NEW, c -> c.shelf(0, w, 0), BAD);
        }
        for (int n : new int[] {0, -1, 4, MIN, MAX}) {
            edge.answers("nothing", Scenes.FULL, c -> c.shelf(0, 4, n), 1);
            edge.answers("it holds nothing then", Scenes.FULL.then(c -> c.shelf(0, 4, n)), c -> c.taken(0, 0), NOTHING);
        }
        edge.answers("of a SHEET that is missing nothing", Scenes.FULL.then(c -> c.sheet(1, -1, 0)).then(c -> c.shelf(0, 3, 1)),
            c -> c.taken(0, 10), NOTHING);
        edge.answers("the other SHELVES stay", Scenes.FULL.then(c -> c.shelf(0, 4, 0)), c -> c.taken(1, 4), 7);
    }

    private static void theRowItself() {
        Scene held = sheet(1, 7).then(c -> c.shelf(2, 3, 0));
        edge.answers("a row of shorts", held, c -> c.taken(2, 11), 7);
        edge.answers("whatever becomes of the SHEET: missing", held.then(c -> c.sheet(0, -1, 0)), c -> c.taken(2, 11), 7);
        edge.answers("another row", held.then(c -> c.sheet(0, 2, 9)), c -> c.taken(2, 11), 7);
        edge.answers("another row is not held", held.then(c -> c.sheet(0, 2, 9)), c -> c.taken(2, 12), OTHER);
        edge.answers("a row of 0", sheet(4, 0).then(c -> c.shelf(0, 3, 0)), c -> c.taken(0, 14), 0);
        edge.answers("a row of 40", sheet(4, 40).then(c -> c.shelf(0, 3, 0)), c -> c.taken(0, 14), 40);
        Scene late = Scenes.NEW.then(c -> c.shelf(0, 3, 0)).then(c -> c.sheet(0, 1, 7));
        edge.answers("a SHEET that was missing then is nothing still", late, c -> c.taken(0, 11), NOTHING);
        edge.answers("two SHELVES may hold one row", held.then(c -> c.shelf(3, 3, 0)), c -> c.taken(3, 11), 7);
    }

    private static void promise52() {
        for (Scene scene : new Scene[] {Scenes.NEW, Scenes.BUSY, Scenes.FULL}) {
            edge.takes("no such SHELF", scene, 0, 3, BAD, (c, v) -> c.taken(v, 0));
            for (int as : new int[] {-1, 7, 8, 9, 15, MIN, MAX}) {
                edge.refused("no such as: " + as, scene, c -> c.taken(1, as), BAD);
            }
        }
        for (int as = 0; as < 15; as++) {
            int a = as;
            if (as < 7 || as > 9) {
                edge.refused("-11: nothing as " + as, Scenes.NEW, c -> c.taken(0, a), NOTHING);
            }
        }
        // What is taken for 0 to 6 and 10 to 14: 1 as such, 0 not so.
        kinds("a SHERD", Scenes.FULL.then(c -> c.shelf(0, 0, 0)), 0, "110000000000");
        kinds("READY", Scenes.FULL.then(c -> c.shelf(0, 0, 39)), 39, "111000000000");
        kinds("a BARGAIN", Scenes.FULL.then(c -> c.shelf(0, 1, 7)), 7, "100010000000");
        Scene sent = Scenes.strangers(16).then(c -> Due.sherd(c, "ppp", 0)).then(c -> c.shelf(0, 2, 15)).then(SherdCity::send);
        kinds("SENT", sent, 15, "100001000000");
        kinds("RECALLED", sent.then(c -> c.recall(15, 1, 1)), 15, "100001100000");
        for (int sort = 0; sort < 5; sort++) {
            StringBuilder as = new StringBuilder("000000000000");
            as.setCharAt(7 + sort, '1');
            kinds("a row of sort " + sort, sheet(sort, 9).then(c -> c.shelf(0, 3, 0)), 9, as.toString());
        }
    }

    private static void kinds(String sentence, Scene scene, int number, String is) {
        for (int i = 0; i < 12; i++) {
            int as = i < 7 ? i : i + 3;
            int want = is.charAt(i) == '1' ? number : OTHER;
            edge.answers(sentence + " as " + as, scene, c -> c.taken(0, as), want);
            edge.changesNothing(sentence + " as " + as, scene, c -> c.taken(0, as));
        }
    }

    private static void asItIsNow() {
        Scene none = Scenes.NEW.then(c -> c.ward(0, 0)).then(c -> Due.sherd(c, "abc", 0)).then(c -> c.shelf(0, 0, 0));
        kinds("void: nobody is MEANT", none, 0, "110100000000");
        Scene comes = none.then(c -> Scenes.man(c, 0, 0, "abd", "pa"));
        kinds("a SHERD, when somebody is MEANT", comes, 0, "110000000000");
        kinds("THROWN it is there still", comes.then(c -> c.thrown(0)), 0, "110000000000");
        Scene both = comes.then(c -> c.sherd(Due.name("abc"), 0, -1, -1, 1, 10000)).then(c -> c.shelf(0, 0, 1));
        kinds("void: it has a second NAME, though it is READY", both, 1, "110100000000");
        Scene voidReady = Scenes.NEW.then(c -> c.sherd(1, 0, -1, -1, 0, 10000)).then(c -> c.shelf(0, 0, 0));
        kinds("void: nobody is MEANT, though it is READY", voidReady, 0, "110100000000");
        kinds("READY, when somebody is MEANT", voidReady.then(c -> c.ward(0, 0)).then(c -> c.man(0, 0, 1, 1)), 0, "111000000000");
        Scene man = Scenes.strangers(1).then(c -> Due.sherd(c, "aaa", 0)).then(c -> c.shelf(0, 2, 0));
        edge.refused("-11: the MAN was never SENT", man, c -> c.taken(0, 5), NOTHING);
        edge.refused("-11: not as a row either", man, c -> c.taken(0, 10), NOTHING);
        Scene sent = man.then(c -> Due.rule(c, "years 0;")).then(SherdCity::send);
        kinds("SENT at some time, with years 0", sent, 0, "100001000000");
        Scene back = man.then(SherdCity::send).then(c -> c.recall(0, 1, 1));
        kinds("RECALLED the last time", back, 0, "100001100000");
        kinds("SENT anew", back.then(SherdCity::send), 0, "100001000000");
        kinds("long ago", Scenes.onDay(man.then(SherdCity::send), 9999), 0, "100001000000");
        Scene gone = Scenes.NEW.then(SherdCity::keep).then(c -> c.sherd(1, 0, -1, -1, 0, 0)).then(c -> c.shelf(0, 0, 0))
            .then(SherdCity::again);
        edge.refused("-11: it is not there any more", gone, c -> c.taken(0, 0), NOTHING);
        kinds("one of its number is", gone.then(c -> c.sherd(1, 0, -1, -1, 0, 0)), 0, "110100000000");
    }

    private static void promise53() {
        Scene ran = Scenes.FULL.then(c -> c.act(1, 1, 5));
        edge.answers("bodies ran", ran, c -> c.many(10), 3);
        for (int i = 0; i < 4; i++) {
            int shelf = i;
            Scene held = Scenes.men(1).then(c -> c.sherd(1, 0, -1, -1, 0, 77));
            edge.answers("nothing at first, though there is a SHERD 0", held, c -> c.act(shelf, 0, 5), 0);
            edge.refused("nothing at first, though there is a SHERD 0", held, c -> c.taken(shelf, 0), NOTHING);
            edge.answers("SHELF " + shelf, held.then(c -> c.shelf(shelf, 0, 0)), c -> c.act(shelf, 1, 5), 10 ^ 77);
            edge.answers("not another SHELF", held.then(c -> c.shelf(shelf, 0, 0)), c -> c.act((shelf + 1) % 4, 1, 5), 0);
        }
        for (int v : new int[] {-1, 4, MIN, MAX}) {
            none("no such SHELF", ran, v, 0);
            none("no such act", ran, 1, v);
        }
        for (int act = 0; act < 4; act++) {
            none("nothing", ran, 3, act);
            none("a row", ran, 2, act);
            none("a MAN never SENT", ran.then(c -> c.shelf(3, 2, 15)), 3, act);
            int a = act;
            edge.answers("a SHERD acts", ran.then(c -> c.act(0, a, 1)), c -> c.many(10), new int[] {2, 4, 5, 2}[act]);
            edge.holds("and changes nothing else", ran.isLike(ran.then(c -> c.act(0, a, 1)).then(c -> c.act(1, 1, 5))));
        }
    }

    private static void none(String sentence, Scene scene, int shelf, int act) {
        edge.answers("0: " + sentence, scene, c -> c.act(shelf, act, 5), 0);
        edge.answers("an empty TRACE then: " + sentence, scene.then(c -> c.act(shelf, act, 5)), c -> c.many(10), 0);
        edge.answers("none of it: " + sentence, scene.then(c -> c.act(shelf, act, 5)), c -> c.trace(0), NONE);
    }

    /** A SHERD 1 of HAND 3, READY or not or void, on SHELF 0. */
    private static Scene sherd(int ready, int second) {
        return Scenes.men(1).then(c -> c.sherd(1, 0, -1, -1, 0, 0)).then(c -> c.sherd(1, 0, -1, -1, second, 3 + 10000 * ready))
            .then(c -> c.shelf(0, 0, 1));
    }

    private static void wraps(String sentence, Scene scene, int x, int... want) {
        for (int act = 0; act < 4; act++) {
            int a = act;
            edge.answers(sentence + ", act " + act + ", x " + x, scene, c -> c.act(0, a, x), want[act]);
        }
    }

    private static void intsThatWrap() {
        for (int x : new int[] {MAX, MIN, MAX - 1, MIN + 1, 1 << 30, 0, -1}) {
            int names = x + 1;
            int counts = names * 2 ^ 3;
            wraps("a SHERD", sherd(0, 0), x, names, counts, counts - 3, x / 2 + 1);
            int three = names * 3;
            int more = three * 2 ^ 3;
            wraps("READY", sherd(1, 0), x, three, more, more - 3, x / 2 + 1);
            wraps("void", sherd(1, 1), x, names, -counts, -counts - 3 + 3, x / 2 + 1);
            Scene bargain = Scenes.men(1).then(c -> c.bargain(0, 0, 0, 0)).then(c -> c.bargain(5, 0, 0, 0)).then(c -> c.shelf(0, 1, 1));
            wraps("a BARGAIN", bargain, x, x, x * 2, (x * 2 - 5) * 2, x / 4);
            Scene sent = Scenes.onDay(Scenes.strangers(2).then(c -> Due.sherd(c, "bbb", 0)), 8).then(SherdCity::send)
                .then(c -> c.shelf(0, 2, 1));
            int tells = (x + 7) / 7 - names;
            wraps("SENT", sent, x, names, names * 2, names * 2 - 8, tells);
            wraps("RECALLED", sent.then(c -> c.recall(1, 1, 1)), x, names, names * 2, names * 2 - 8 - 1, -tells);
        }
    }

    private static void parted() {
        Scene bargain = Scenes.men(1).then(c -> c.bargain(0, 0, 0, 0)).then(c -> c.bargain(0, 0, 0, 0));
        Scene same = bargain.then(c -> c.shelf(0, 1, 0));
        for (int x : new int[] {0, 1, MIN, MAX}) {
            edge.answers("-15 if these are the same", same, c -> c.act(0, 3, x), PARTED);
        }
        edge.answers("MIN by -1 wraps", bargain.then(c -> c.shelf(0, 1, 1)), c -> c.act(0, 3, MIN), MIN);
        edge.answers("7 by -1", bargain.then(c -> c.shelf(0, 1, 1)), c -> c.act(0, 3, 7), -7);
        edge.answers("the rest away, of 7 by 2 and 1 more", sherd(0, 0), c -> c.act(0, 3, 7), 4);
        edge.answers("the rest away, of -7 by 2 and 1 more", sherd(0, 0), c -> c.act(0, 3, -7), -2);
        edge.answers("the rest away, of 1 by 2 and 1 more", sherd(0, 0), c -> c.act(0, 3, 1), 1);
        edge.answers("the rest away, of -1 by 2 and 1 more", sherd(0, 0), c -> c.act(0, 3, -1), 1);
        bodies("of a BARGAIN", same, 13);
        bodies("of a SHERD", Scenes.men(1).then(c -> c.sherd(1, 0, -1, -1, 0, 0)).then(c -> c.shelf(0, 0, 0)), 21, 13);
        Scene man = Scenes.strangers(1).then(c -> Due.sherd(c, "aaa", 0)).then(SherdCity::send).then(c -> c.shelf(0, 2, 0));
        bodies("of one who is SENT", man, 60, 13);
        bodies("of one who is RECALLED", man.then(c -> c.recall(0, 1, 1)), 71, 60, 13);
        edge.answers("what comes later goes on", same.then(c -> c.act(0, 3, 1)), c -> c.act(0, 0, 5), 4);
    }

    /** THE TRACE has the bodies that began ahead of -15. */
    private static void bodies(String sentence, Scene scene, int... bodies) {
        Scene ran = scene.then(c -> c.act(0, 3, 5));
        edge.answers("-15 " + sentence, scene, c -> c.act(0, 3, 5), PARTED);
        edge.answers("how many bodies began " + sentence, ran, c -> c.many(10), bodies.length);
        for (int i = 0; i < bodies.length; i++) {
            int at = i;
            edge.answers("the bodies that began " + sentence, ran, c -> c.trace(at), bodies[at]);
        }
    }

    private static void promise54() {
        edge.refused("NONE without any", Scenes.NEW, c -> c.trace(0), NONE);
        Scene ran = sherd(1, 1).then(c -> c.act(0, 2, 1));
        int[] want = {41, 12, 40, 20, 11, 10, 10};
        for (int i = 0; i < want.length; i++) {
            int at = i;
            edge.answers("the bodies as they began", ran, c -> c.trace(at), want[at]);
        }
        for (int i : new int[] {7, 8, 29, 30, 31, -1, MIN, MAX}) {
            edge.refused("NONE: " + i, ran, c -> c.trace(i), NONE);
        }
        Scene later = ran.then(c -> c.act(0, 0, 1));
        edge.answers("of the latest act() alone", later, c -> c.trace(0), 10);
        edge.answers("of the latest act() alone", later, c -> c.trace(1), NONE);
    }

    private static void promise55() {
        edge.takes("another what", Scenes.NEW, 0, 13, BAD, SherdCity::many);
        edge.takes("another what", Scenes.BUSY, 0, 13, BAD, SherdCity::many);
        edge.takes("another what", Scenes.FULL, 0, 13, BAD, SherdCity::many);
        int[] most = {9999, 8, 16, 8, 8, 40, 20, 16, 9, 300};
        for (int what = 0; what < most.length; what++) {
            int w = what;
            edge.answers("as many as there may be: " + what, Scenes.FULL, c -> c.many(w), most[w]);
        }
        for (int law = 0; law < 4; law++) {
            int l = law;
            edge.answers("THE LAW", Scenes.FULL.then(c -> c.force(l)), c -> c.many(11), l);
        }
        edge.answers("that of an empty TEXT is answered as 9", Scenes.FULL.then(c -> c.force(-1)), c -> c.many(11), 9);
        Scene come = Scenes.strangers(16).then(c -> Due.sherd(c, "aaa", 0)).then(c -> c.harvest(0, 1, 1));
        edge.answers("all sixteen COME TODAY", come, c -> c.many(13), 16);
        edge.answers("none is SENT", come, c -> c.many(12), 0);
        edge.answers("one less, if he is SENT", come.then(SherdCity::send), c -> c.many(13), 15);
        edge.answers("he is SENT TODAY", come.then(SherdCity::send), c -> c.many(12), 1);
        edge.answers("none COMES in the HARVEST", come.then(c -> c.days(1)), c -> c.many(13), 0);
        edge.answers("he is SENT on the last DAY", Scenes.onDay(come.then(SherdCity::send), 3599), c -> c.many(12), 1);
        edge.answers("not on the one behind", Scenes.onDay(come.then(SherdCity::send), 3600), c -> c.many(12), 0);
    }
}
