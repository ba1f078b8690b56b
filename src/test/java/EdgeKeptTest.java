/** Promises 56 and 57: what the document says of their edges. */
public final class EdgeKeptTest {
    private static final int NONE = SherdCity.NONE;
    private static final Edge edge = new Edge();
    /** What is kept on DAY 0, ahead of all that BUSY does. */
    private static final Scene EMPTY_KEPT = Scenes.NEW.then(SherdCity::keep);

    public static void main(String[] args) {
        promise56();
        promise57();
        fullAndEmpty();
        notKept();
        anew();
        edge.end();
    }

    private static void promise56() {
        for (Scene scene : new Scene[] {Scenes.NEW, Scenes.BUSY, Scenes.FULL}) {
            edge.answers("1", scene, SherdCity::keep, 1);
            edge.answers("1 anew", scene.then(SherdCity::keep), SherdCity::keep, 1);
            Scene kept = scene.then(SherdCity::keep);
            edge.holds("what is kept is what is there", kept.isLike(kept.then(SherdCity::again)));
            edge.changesNothing("kept twice", kept, SherdCity::keep);
            edge.changesNothing("it became what was kept", kept, SherdCity::again);
        }
    }

    private static void promise57() {
        edge.refused("NONE: nothing is kept", Scenes.NEW, SherdCity::again, NONE);
        edge.refused("NONE: nothing is kept of much", Scenes.strangers(16).then(c -> c.days(9)), SherdCity::again, NONE);
        edge.answers("1", EMPTY_KEPT, SherdCity::again, 1);
        edge.answers("1", Scenes.FULL, SherdCity::again, 1);
        Scene twice = Scenes.men(1).then(SherdCity::keep).then(c -> c.man(0, 0, 1, 1)).then(SherdCity::keep)
            .then(c -> c.man(0, 0, 1, 1));
        edge.answers("what was kept latest", twice.then(SherdCity::again), c -> c.many(2), 2);
        Scene often = twice;
        for (int i = 0; i < 3; i++) {
            often = often.then(SherdCity::again).then(c -> c.man(0, 0, 1, 1)).then(c -> c.days(5));
        }
        edge.answers("(which stays)", often, SherdCity::again, 1);
        edge.answers("(which stays): MEN", often.then(SherdCity::again), c -> c.many(2), 2);
        edge.answers("(which stays): TODAY", often.then(SherdCity::again), c -> c.many(0), 0);
    }

    private static void fullAndEmpty() {
        SherdCity c = Scenes.FULL.city();
        int[] kept = {6, 8, 16, 8, 8, 40, 20, 16, 9, 300, 5, 3};
        edge.is("again on the last of all DAYS", c.again(), 1);
        for (int what = 0; what < kept.length; what++) {
            if (what != 10) {
                edge.is("many " + what, c.many(what), kept[what]);
            }
        }
        edge.is("a DAY may go by", c.days(1), 7);
        edge.is("THROWN later it is not now", c.sherdOf(0, 8), NONE);
        SherdCity d = EMPTY_KEPT.then(x -> fill(x)).city();
        edge.is("many WARDS", d.many(1), 8);
        edge.is("again", d.again(), 1);
        for (int what = 0; what < 9; what++) {
            edge.is("empty: many " + what, d.many(what), 0);
        }
        edge.is("THE LAW is that of an empty TEXT", d.many(11), 9);
        for (int law = 0; law < 4; law++) {
            edge.is("no LAW was read", d.force(law), -8);
        }
        int[] rules = {300, 3, 1, 4};
        for (int what = 0; what < 4; what++) {
            edge.is("rules at first", d.rule(what, rules[what]), rules[what]);
        }
        for (int gate = 0; gate < 5; gate++) {
            edge.is("TALLIES at first", d.tally(0, gate, 0), 0);
            edge.is("TALLIES at first", d.tally(1, gate, 0), 0);
        }
    }

    private static void fill(SherdCity c) {
        for (int i = 0; i < 8; i++) {
            c.ward(1, 1);
        }
        for (int i = 0; i < 16; i++) {
            Scenes.man(c, i % 8, 0, Scenes.stranger(i), "pa");
        }
        for (int i = 0; i < 20; i++) {
            c.wet(i);
        }
        for (int i = 0; i < 8; i++) {
            c.word(1, 1, 1);
            c.bargain(0, 1, 0, 1);
        }
        c.style(1, 9876, 3);
        c.fear(1, 2, 9);
        c.fear(3, 1, 9);
        for (int i = 0; i < 40; i++) {
            c.sherd(Due.name(i % 2 == 0 ? "aaa" : "bb"), Due.name("pa"), -1, 1, i < 36 ? Due.name("ccc") : 0, 19999);
        }
        c.thrown(1);
        c.thrown(2);
        for (int i = 0; i < 9; i++) {
            c.heap(i);
        }
        for (int i = 0; i < 4; i++) {
            Due.read(c, i, "years 4; good 1; enough 1; recall 1; may 1;");
            c.rule(i, 7);
        }
        c.force(3);
        for (int i = 0; i < 10; i++) {
            c.tally(i % 2, i / 2, 9);
        }
        c.send();
        c.days(9);
        c.recall(0, 1, 1);
        for (int i = 0; i < 8; i++) {
            c.harvest(i, 0, 9999);
        }
    }

    private static void notKept() {
        Scene held = Scenes.FULL.then(c -> c.sheet(1, 3, 4)).then(c -> c.alterRow(15, 1, 77))
            .then(c -> c.shelf(3, 3, 1)).then(c -> c.act(1, 3, 9));
        Scene back = held.then(SherdCity::again);
        int[] whats = {7, 9, 10};
        for (int what : whats) {
            edge.answers("not kept: many " + what, back, c -> c.many(what), held.city().many(what));
        }
        for (int i = 0; i < 8; i++) {
            int at = i;
            edge.answers("THE TRACE", back, c -> c.trace(at), held.city().trace(at));
        }
        edge.answers("ROWS", back, c -> c.row(15, 1), 77);
        edge.answers("SHEETS", back, c -> c.put(1, 3, 1), 1);
        for (int i = 0; i < 4; i++) {
            int at = i;
            edge.answers("SHELVES", back, c -> c.taken(at, 0), held.city().taken(at, 0));
            edge.answers("SHELVES", back, c -> c.taken(at, 13), held.city().taken(at, 13));
        }
        Scene before = Scenes.men(1).then(SherdCity::keep).then(c -> c.prove(0)).then(c -> Due.feed(c, "good")).then(SherdCity::again);
        edge.answers("ROWS that came later stay", before, c -> c.many(7), 1);
        edge.answers("THE TAPE that came later stays", before, c -> c.many(9), 4);
        Scene recalled = Scenes.strangers(1).then(c -> Due.sherd(c, "aaa", 0)).then(SherdCity::send).then(c -> c.recall(0, 1, 1));
        edge.answers("that he was RECALLED is kept", recalled.then(SherdCity::keep).then(SherdCity::send).then(SherdCity::again),
            c -> c.of(0, 7), 1);
        Scene rows = EMPTY_KEPT.then(c -> c.ward(0, 0)).then(c -> c.man(0, 0, 1, 1)).then(c -> c.prove(0)).then(SherdCity::again);
        edge.answers("ROWS of a MAN who is not there any more", rows, c -> c.row(0, 0), 0);
        edge.answers("they are not so", rows, c -> c.judge(0), 1);
    }

    /** What comes anew finds nothing of what was there ahead of again(). */
    private static void anew() {
        Scene filled = EMPTY_KEPT.then(c -> fill(c)).then(SherdCity::again);
        Scene fresh = Scenes.NEW.then(SherdCity::keep);
        edge.holds("all is as it was", filled.isLike(fresh));
        edge.holds("filled anew it is as filled at once", filled.then(c -> fillOtherwise(c)).isLike(fresh.then(c -> fillOtherwise(c))));
    }

    private static void fillOtherwise(SherdCity c) {
        c.ward(2, 7);
        c.ward(3, 200);
        for (int i = 0; i < 5; i++) {
            Scenes.man(c, i % 2, i - 1, Scenes.stranger(i + 1), "po");
        }
        c.fear(1, 2, 4);
        c.word(3, 5, 1);
        c.bargain(2, 4, 0, 50);
        c.vote();
        for (String name : new String[] {"bbb", "zzz", "yyy", "cc"}) {
            Due.sherd(c, name, 3);
        }
        c.days(2);
        c.read(1);
        c.heap(1);
    }
}
