/** Promises 56 and 57: kept. */
public final class KeptTest {
    private static final Due due = new Due();

    public static void main(String[] args) {
        allIsKept();
        restIsNot();
        keptStays();
        slotsAreClean();
        due.end();
    }

    private static SherdCity full() {
        SherdCity c = new SherdCity();
        c.days(2);
        c.wet(2);
        c.ward(1, 10);
        c.harvest(0, 50, 60);
        c.man(0, 0, Due.name("ab"), 1);
        c.man(0, 1, Due.name("cd"), 2);
        c.style(0, 1234, 3);
        c.fear(0, 1, 4);
        c.word(1, 2, 0);
        c.rule(0, 100);
        c.rule(1, 5);
        c.rule(2, 2);
        c.rule(3, 9);
        c.bargain(1, 0, 0, 99);
        Due.sherd(c, "ab", 2);
        c.sherd(Due.name("cd"), 2, 0, -1, 0, 10077);
        c.thrown(1);
        Due.read(c, 1, "years 3; may days < 9;");
        c.force(1);
        c.tally(0, 1, 5);
        c.tally(1, 4, 6);
        c.send();
        c.heap(1);
        c.heap(0);
        return c;
    }

    /** Whatever can be asked of what is kept. */
    private static String look(SherdCity c) {
        StringBuilder b = new StringBuilder();
        for (int what = 0; what < 14; what++) {
            if (what != 7 && what != 9 && what != 10) {
                b.append(' ').append(c.many(what));
            }
        }
        for (int day = 0; day < 100; day += 10) {
            b.append(' ').append(c.bound(1, day)).append(c.comes(1, day)).append(c.cast(0, day)).append(c.cast(1, day));
            b.append(c.may(0, day)).append(c.beside(-1, day)).append(c.keptBy(day)).append(c.best(day));
        }
        for (int m = 0; m < 3; m++) {
            for (int what = 0; what < 8; what++) {
                b.append(' ').append(c.of(m, what));
            }
            for (int w = 0; w < 2; w++) {
                b.append(' ').append(c.heard(m, w));
            }
            for (int o = 0; o < 3; o++) {
                b.append(' ').append(c.dread(m, o, 9999));
            }
        }
        for (int s = 0; s < 4; s++) {
            for (int what = 0; what < 12; what++) {
                b.append(' ').append(c.sherdOf(s, what));
            }
        }
        for (int what = 0; what < 8; what++) {
            b.append(' ').append(c.law(what)).append(c.tallies(what)).append(c.count(c.many(0), what));
        }
        for (int what = 0; what < 14; what++) {
            b.append(' ').append(c.hands(what));
        }
        return b.toString();
    }

    private static void changeAll(SherdCity c) {
        c.rule(0, 1);
        c.rule(1, 1);
        c.rule(2, 1);
        c.rule(3, 1);
        c.recall(0, 1, 1);
        c.days(5);
        c.wet(20);
        c.harvest(0, 0, 9999);
        c.ward(4, 0);
        c.man(1, 5, Due.name("abx"), 1);
        c.style(0, 1, 0);
        c.fear(0, 1, 9);
        c.fear(1, 2, 9);
        c.word(2, 5, 1);
        c.bargain(1, 2, 0, 99);
        c.bargain(0, 2, 0, 99);
        c.thrown(0);
        Due.sherd(c, "cd", 3);
        Due.read(c, 1, "years 5; good 0; enough 1; recall 1;");
        Due.read(c, 2, "enough 0;");
        c.force(2);
        c.tally(0, 1, 9);
        c.tally(1, 0, 9);
        c.clear();
        c.heap(2);
        c.days(30);
    }

    private static void allIsKept() {
        SherdCity c = full();
        due.is("nothing is kept", c.again(), -3);
        String was = look(c);
        due.is("keep", c.keep(), 1);
        due.holds("keep changes nothing", look(c).equals(was));
        changeAll(c);
        String other = look(c);
        due.holds("all is another", !other.equals(was));
        due.is("again", c.again(), 1);
        due.holds("all is as it was", look(c).equals(was));
        changeAll(c);
        due.holds("and goes on as before", look(c).equals(other));
        due.is("a law that was not read then", c.again(), 1);
        due.is("is not read now", c.force(2), -8);
        int[] rules = {100, 5, 2, 9};
        for (int i = 0; i < 4; i++) {
            due.is("rule " + i, c.rule(i, rules[i]), rules[i]);
        }
    }

    private static void restIsNot() {
        SherdCity c = full();
        c.shelf(0, 1, 0);
        c.act(0, 0, 5);
        c.prove(2);
        c.sheet(0, 0, 3);
        c.keep();
        Due.feed(c, "good");
        int s = Due.sherd(c, "zz", 0);
        int m = Due.man(c, 0, "zz");
        int g = c.bargain(2, 0, 0, 5);
        c.shelf(1, 0, s);
        c.shelf(2, 1, g);
        c.shelf(3, 2, m);
        c.sheet(0, 2, 9);
        c.put(0, 8, 77);
        c.prove(2);
        c.alterRow(1, 1, 55);
        c.act(2, 2, 5);
        c.again();
        due.is("the tape", c.many(9), 4);
        due.is("rows", c.many(7), 3);
        due.is("a row", c.row(1, 1), 55);
        due.is("a sheet", c.item(0, 2, 8), 77);
        due.is("the trace", c.many(10), 5);
        due.is("its first", c.trace(0), 50);
        due.is("a shelf", c.taken(0, 4), 0);
        due.is("a sherd that is not there any more", c.taken(1, 0), -11);
        due.is("a bargain", c.taken(2, 0), -11);
        due.is("a man", c.taken(3, 0), -11);
        due.is("nothing acts", c.act(1, 0, 5), 0);
        due.is("another sherd with its number", Due.sherd(c, "cd", 0), s);
        due.is("is looked for whenever it is asked", c.taken(1, 1), s);
    }

    private static void keptStays() {
        SherdCity c = new SherdCity();
        c.ward(0, 0);
        c.keep();
        c.ward(0, 0);
        c.again();
        due.is("one ward", c.many(1), 1);
        c.ward(0, 0);
        c.ward(0, 0);
        c.again();
        due.is("one ward again", c.many(1), 1);
        c.ward(0, 0);
        c.keep();
        c.ward(0, 0);
        c.again();
        due.is("what was kept latest", c.many(1), 2);
    }

    /** What came and went with again() leaves nothing behind for those that come next. */
    private static void slotsAreClean() {
        SherdCity c = new SherdCity();
        c.ward(0, 0);
        Due.man(c, 0, "ab");
        Due.sherd(c, "zz", 0);
        c.keep();
        c.ward(1, 5);
        c.harvest(1, 0, 9999);
        Due.man(c, 3, "zz");
        c.fear(0, 1, 9);
        c.fear(1, 0, 9);
        c.style(1, 77, 3);
        c.word(0, 5, 1);
        c.word(0, 5, 0);
        Due.sherd(c, "zz", 0);
        Due.sherd(c, "zz", 0);
        c.send();
        c.thrown(1);
        c.again();
        c.ward(2, 6);
        c.man(1, 4, Due.name("q"), 1);
        due.is("no harvest", c.comes(1, 0), 1);
        due.is("no hand", c.of(1, 4), 0);
        due.is("not sent", c.of(1, 5), -3);
        due.is("no fear of the old one", c.dread(0, 1, 0), 0);
        due.is("no fear of his", c.dread(1, 0, 0), 0);
        due.is("nobody meant", c.sherdOf(0, 9), 0);
        c.word(0, 1, 1);
        due.is("not heard", c.heard(0, 0), -3);
        Due.sherd(c, "q", 0);
        due.is("not thrown", c.sherdOf(1, 8), -3);
        due.is("meant", c.sherdOf(1, 10), 2);
    }
}
