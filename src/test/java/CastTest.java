/** Promises 14 to 17: bargains, casts. */
public final class CastTest {
    private static final Due due = new Due();

    public static void main(String[] args) {
        bargains();
        bound();
        comes();
        castByDread();
        castByBargain();
        castWithSent();
        due.end();
    }

    private static SherdCity four() {
        SherdCity c = new SherdCity();
        c.ward(1, 100);
        for (String name : new String[] {"ab", "cd", "ef", "gh"}) {
            Due.man(c, 0, name);
        }
        return c;
    }

    private static void bargains() {
        SherdCity c = four();
        due.is("club -1", c.bargain(-1, 0, 0, 1), -1);
        due.is("club 6", c.bargain(6, 0, 0, 1), -1);
        due.is("man 4", c.bargain(0, 4, 0, 1), -1);
        due.is("man -1", c.bargain(0, -1, 0, 1), -1);
        due.is("day -1", c.bargain(0, 0, -1, 1), -1);
        due.is("day 10000", c.bargain(0, 0, 0, 10000), -1);
        due.is("last ahead of first", c.bargain(0, 0, 2, 1), -1);
        for (int i = 0; i < 8; i++) {
            due.is("bargain", c.bargain(5, 0, 9999, 9999), i);
        }
        due.is("full", c.bargain(0, 0, 0, 0), -2);
        due.is("bad, ahead of full", c.bargain(0, 0, 2, 1), -1);
        due.is("many 4", c.many(4), 8);
    }

    private static void bound() {
        SherdCity c = four();
        due.is("none", c.bound(0, 0), -3);
        c.bargain(0, 1, 5, 10);
        c.bargain(0, 2, 7, 8);
        c.bargain(1, 3, 0, 9999);
        int[] want = {-3, 1, 1, 2, 2, 1, 1, -3};
        for (int day = 4; day < 12; day++) {
            due.is("bound on " + day, c.bound(0, day), want[day - 4]);
        }
        due.is("another club", c.bound(1, 7), 3);
        due.is("club -1", c.bound(-1, 7), -1);
        due.is("club 6", c.bound(6, 7), -1);
        due.is("day -1", c.bound(0, -1), -1);
        due.is("day 10000", c.bound(0, 10000), -1);
    }

    private static void comes() {
        SherdCity c = four();
        due.is("no man", c.comes(4, 0), -1);
        due.is("man -1", c.comes(-1, 0), -1);
        due.is("no day", c.comes(0, 10000), -1);
        due.is("near", c.comes(0, 0), 1);
        c.rule(0, 100);
        due.is("just so", c.comes(0, 0), 1);
        c.rule(0, 99);
        due.is("too far", c.comes(0, 0), 0);
        c.rule(0, 199);
        c.wet(3);
        due.is("dry", c.comes(0, 2), 1);
        due.is("wet", c.comes(0, 3), 0);
        c.rule(0, 200);
        due.is("wet, just so", c.comes(0, 3), 1);
        due.is("all come", c.many(13), 4);
        c.days(3);
        c.rule(0, 199);
        due.is("none come today", c.many(13), 0);
    }

    private static void castByDread() {
        SherdCity c = four();
        due.is("no man", c.cast(4, 0), -1);
        due.is("no day", c.cast(0, -1), -1);
        due.is("nobody", c.cast(0, 0), -3);
        c.fear(0, 3, 4);
        c.fear(0, 2, 4);
        due.is("of several the least", c.cast(0, 0), 2);
        c.rule(2, 4);
        due.is("just so", c.cast(0, 0), 2);
        c.rule(2, 5);
        due.is("not enough dread", c.cast(0, 0), -3);
        c.rule(2, 0);
        due.is("with LEAST 0 somebody", c.cast(2, 0), 0);
        due.is("not himself", c.cast(0, 0), 2);
        c.harvest(0, 1, 1);
        due.is("he doesn't come", c.cast(0, 1), -4);
        SherdCity alone = new SherdCity();
        alone.ward(0, 0);
        Due.man(alone, 0, "a");
        alone.rule(2, 0);
        due.is("nobody else is there", alone.cast(0, 0), -3);
    }

    private static void castByBargain() {
        SherdCity c = four();
        c.bargain(0, 3, 0, 9);
        due.is("as bound", c.cast(0, 0), 3);
        due.is("not himself", c.cast(3, 0), -3);
        due.is("not bound", c.cast(0, 10), -3);
        c.fear(0, 1, 2);
        due.is("less than BREAK", c.cast(0, 0), 3);
        c.fear(0, 1, 3);
        due.is("BREAK", c.cast(0, 0), 1);
        c.fear(0, 3, 1);
        due.is("BREAK above the dread of x", c.cast(0, 0), 3);
        c.rule(1, 2);
        due.is("less BREAK", c.cast(0, 0), 1);
        c.rule(1, 0);
        c.fear(0, 1, 0);
        c.fear(0, 2, 1);
        due.is("BREAK 0: as much dread breaks", c.cast(0, 0), 2);
        c.fear(0, 3, 9);
        due.is("more dread of x", c.cast(0, 0), 3);
        SherdCity d = four();
        Due.man(d, -1, "ij");
        d.bargain(0, 3, 0, 9);
        due.is("of no club, so not bound", d.cast(4, 0), -3);
    }

    private static void castWithSent() {
        SherdCity c = four();
        c.bargain(0, 3, 0, 9999);
        c.fear(0, 3, 9);
        c.fear(0, 1, 2);
        Due.sherd(c, "gh", 0);
        due.is("send", c.send(), 3);
        due.is("bound still", c.bound(0, 0), 3);
        due.is("who is sent isn't cast", c.cast(0, 0), 1);
        due.is("nor bound to", c.cast(1, 0), -3);
        due.is("he doesn't come", c.cast(3, 0), -4);
        due.is("comes", c.comes(3, 3599), 0);
        due.is("comes again", c.comes(3, 3600), 1);
        due.is("cast behind that", c.cast(0, 3600), 3);
        Due.sherd(c, "cd", 0);
        Due.sherd(c, "cd", 0);
        due.is("send another", c.send(), 1);
        due.is("a bargain isn't broken for one who is sent", c.cast(0, 0), -3);
        due.is("many 12", c.many(12), 2);
    }
}
