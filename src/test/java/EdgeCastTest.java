/** Promises 14 to 17: what the document says of their edges. */
public final class EdgeCastTest {
    private static final int BAD = SherdCity.BAD, FULL = SherdCity.FULL, NONE = SherdCity.NONE, STATE = SherdCity.STATE;
    private static final Edge edge = new Edge();

    public static void main(String[] args) {
        promise14();
        promise15();
        promise16();
        minutesAndLimit();
        sentFromDayToDay();
        promise17();
        leastDread();
        dreadThatBreaks();
        notSentButNeedNotCome();
        dreadOnThatDay();
        sentOnThatDay();
        edge.end();
    }

    private static void promise14() {
        edge.refused("BAD: there is no such MAN, without any", Scenes.NEW, c -> c.bargain(0, 0, 0, 0), BAD);
        edge.takes("CLUB (0 to 5), not none", Scenes.BUSY, 0, 5, BAD, (c, v) -> c.bargain(v, 0, 0, 9999));
        edge.takes("no such MAN", Scenes.BUSY, 0, 4, BAD, (c, v) -> c.bargain(1, v, 0, 9999));
        edge.takes("no such DAY (first)", Scenes.BUSY, 0, 9999, BAD, (c, v) -> c.bargain(1, 0, v, 9999));
        edge.takes("no such DAY (last)", Scenes.BUSY, 0, 9999, BAD, (c, v) -> c.bargain(1, 0, 0, v));
        edge.refused("last is ahead of first", Scenes.BUSY, c -> c.bargain(1, 0, 5, 4), BAD);
        edge.refused("last is ahead of first by all DAYS", Scenes.BUSY, c -> c.bargain(1, 0, 9999, 0), BAD);
        edge.answers("first and last may be the same", Scenes.BUSY, c -> c.bargain(1, 0, 5, 5), 2);
        SherdCity c = Scenes.men(1).city();
        for (int i = 0; i < 8; i++) {
            edge.is("BARGAINS, 8 at most, numbered as they come", c.bargain(5, 0, 0, 0), i);
        }
        edge.is("FULL: the ninth", c.bargain(5, 0, 0, 0), FULL);
        edge.refused("FULL", Scenes.FULL, x -> x.bargain(0, 0, 0, 0), FULL);
        edge.refusesOutside("BAD (CLUB) is named ahead of FULL", Scenes.FULL, 0, 5, BAD, (x, v) -> x.bargain(v, 0, 0, 9999));
        edge.refusesOutside("BAD (MAN) is named ahead of FULL", Scenes.FULL, 0, 15, BAD, (x, v) -> x.bargain(0, v, 0, 9999));
        edge.refusesOutside("BAD (first) is named ahead of FULL", Scenes.FULL, 0, 9999, BAD, (x, v) -> x.bargain(0, 0, v, 9999));
        edge.refusesOutside("BAD (last) is named ahead of FULL", Scenes.FULL, 0, 9999, BAD, (x, v) -> x.bargain(0, 0, 0, v));
        edge.refused("BAD (last ahead of first) is named ahead of FULL", Scenes.FULL, x -> x.bargain(0, 0, 1, 0), BAD);
    }

    private static void promise15() {
        edge.takes("there is no such CLUB", Scenes.BUSY, 0, 5, BAD, (c, v) -> c.bound(v, 0));
        edge.takes("there is no such DAY", Scenes.BUSY, 0, 9999, BAD, (c, v) -> c.bound(1, v));
        edge.refused("NONE", Scenes.BUSY, c -> c.bound(2, 0), NONE);
        edge.refused("BAD is named ahead of NONE", Scenes.NEW, c -> c.bound(6, 0), BAD);
        edge.refused("BAD (DAY) is named ahead of NONE", Scenes.NEW, c -> c.bound(0, 10000), BAD);
        Scene bound = Scenes.men(3).then(c -> c.bargain(5, 2, 0, 9999)).then(c -> c.bargain(5, 1, 3, 4))
            .then(c -> c.bargain(4, 0, 3, 4));
        int[] want = {2, 2, 2, 1, 1, 2};
        for (int day = 0; day < want.length; day++) {
            int d = day;
            edge.answers("the latest told in which that DAY is: " + d, bound, c -> c.bound(5, d), want[d]);
        }
        edge.answers("on DAY 9999", bound, c -> c.bound(5, 9999), 2);
        edge.answers("a DAY ahead", bound, c -> c.bound(4, 2), NONE);
        edge.answers("the first DAY, MAN 0", bound, c -> c.bound(4, 3), 0);
        edge.answers("the last DAY", bound, c -> c.bound(4, 4), 0);
        edge.answers("a DAY behind", bound, c -> c.bound(4, 5), NONE);
    }

    private static void promise16() {
        edge.refused("there is no such MAN, without any", Scenes.NEW, c -> c.comes(0, 0), BAD);
        edge.takes("there is no such MAN", Scenes.BUSY, 0, 4, BAD, (c, v) -> c.comes(v, 0));
        edge.takes("there is no such DAY", Scenes.BUSY, 0, 9999, BAD, (c, v) -> c.comes(0, v));
        Scene harvest = Scenes.men(1).then(c -> c.harvest(0, 10, 12));
        int[] want = {1, 0, 0, 0, 1};
        for (int i = 0; i < want.length; i++) {
            int day = 9 + i;
            edge.answers("his WARD has no HARVEST on DAY " + day, harvest, c -> c.comes(0, day), want[i]);
        }
        edge.answers("that of another WARD is none of his", Scenes.BUSY.then(c -> c.harvest(1, 0, 9999)), c -> c.comes(0, 0), 1);
    }

    private static void minutesAndLimit() {
        comes("MINUTES 300, LIMIT 300", 300, 300, 1, 0);
        comes("MINUTES 301, LIMIT 300", 301, 300, 0, 0);
        comes("twice 150, LIMIT 300", 150, 300, 1, 1);
        comes("twice 151, LIMIT 301", 151, 301, 1, 0);
        comes("MINUTES 0, LIMIT 0", 0, 0, 1, 1);
        comes("MINUTES 1, LIMIT 0", 1, 0, 0, 0);
        comes("MINUTES 600, LIMIT 1200", 600, 1200, 1, 1);
        comes("MINUTES 600, LIMIT 1199", 600, 1199, 1, 0);
        comes("MINUTES 600, LIMIT 599", 600, 599, 0, 0);
        Scene atFirst = Scenes.NEW.then(c -> c.ward(0, 300)).then(c -> c.man(0, -1, 1, 1));
        edge.answers("LIMIT is 300 at first", atFirst, c -> c.comes(0, 0), 1);
        Scene far = Scenes.NEW.then(c -> c.ward(0, 301)).then(c -> c.man(0, -1, 1, 1));
        edge.answers("and no more", far, c -> c.comes(0, 0), 0);
    }

    private static void comes(String about, int minutes, int limit, int dry, int wet) {
        Scene scene = Scenes.NEW.then(c -> c.ward(0, minutes)).then(c -> c.man(0, -1, 1, 1)).then(c -> c.rule(0, limit))
            .then(c -> c.wet(0)).then(c -> c.wet(9999));
        edge.answers(about + ", dry", scene, c -> c.comes(0, 1), dry);
        edge.answers(about + ", WET on DAY 0", scene, c -> c.comes(0, 0), wet);
        edge.answers(about + ", WET on DAY 9999", scene, c -> c.comes(0, 9999), wet);
    }

    private static void sentFromDayToDay() {
        Scene sent = Scenes.onDay(Scenes.strangers(2).then(c -> Due.sherd(c, "bbb", 0)), 7)
            .then(c -> Due.rule(c, "years 1;")).then(SherdCity::send);
        edge.answers("the DAY ahead", sent, c -> c.comes(1, 6), 1);
        edge.answers("TODAY the first", sent, c -> c.comes(1, 7), 0);
        edge.answers("360 DAYS: the last", sent, c -> c.comes(1, 366), 0);
        edge.answers("the DAY behind", sent, c -> c.comes(1, 367), 1);
        Scene back = sent.then(c -> c.days(10)).then(c -> c.recall(1, 1, 1));
        edge.answers("a RECALL ends it as TODAY begins", back, c -> c.comes(1, 17), 1);
        edge.answers("not on the DAY ahead", back, c -> c.comes(1, 16), 0);
        Scene anew = sent.then(c -> c.days(400)).then(SherdCity::send);
        edge.answers("as he was the last time, whatever was before", anew, c -> c.comes(1, 100), 1);
        edge.answers("SENT anew", anew, c -> c.comes(1, 407), 0);
    }

    private static void promise17() {
        edge.refused("there is no such MAN, without any", Scenes.NEW, c -> c.cast(0, 0), BAD);
        edge.takes("there is no such MAN", Scenes.BUSY, 0, 4, BAD, (c, v) -> c.cast(v, 0));
        edge.takes("there is no such DAY", Scenes.BUSY, 0, 9999, BAD, (c, v) -> c.cast(0, v));
        edge.refused("STATE: he doesn't COME", Scenes.BUSY, c -> c.cast(2, 7), STATE);
        edge.refused("NONE: nobody", Scenes.men(2), c -> c.cast(1, 0), NONE);
        Scene home = Scenes.men(2).then(c -> c.harvest(0, 0, 9999));
        edge.refused("STATE is named ahead of NONE", home, c -> c.cast(0, 0), STATE);
        edge.refused("BAD (MAN) is named ahead of STATE", home, c -> c.cast(2, 0), BAD);
        edge.refused("BAD (DAY) is named ahead of STATE", home, c -> c.cast(0, 10000), BAD);
        edge.refused("NONE: he is alone", Scenes.men(1).then(c -> c.rule(2, 0)), c -> c.cast(0, 0), NONE);
    }

    private static void leastDread() {
        Scene dread20 = Scenes.men(3).then(c -> c.fear(0, 2, 9)).then(c -> c.word(2, 5, 0)).then(c -> c.word(2, 5, 0))
            .then(c -> c.rule(2, 20));
        edge.answers("19 with LEAST 20", dread20, c -> c.cast(0, 0), NONE);
        edge.answers("20 with LEAST 20", dread20.then(c -> c.word(2, 1, 0)), c -> c.cast(0, 0), 2);
        Scene least0 = Scenes.men(3).then(c -> c.rule(2, 0));
        edge.answers("LEAST 0: of several the least, but not he", least0, c -> c.cast(0, 0), 1);
        edge.answers("LEAST 0: MAN 0 for another", least0, c -> c.cast(2, 0), 0);
        Scene atFirst = Scenes.men(3);
        edge.answers("LEAST is 1 at first: 0 isn't enough", atFirst, c -> c.cast(0, 0), NONE);
        edge.answers("but 1 is", atFirst.then(c -> c.fear(0, 2, 1)), c -> c.cast(0, 0), 2);
        Scene sixteen = Scenes.men(16).then(c -> c.fear(0, 15, 9)).then(c -> c.fear(0, 14, 9));
        edge.answers("of several the least of sixteen", sixteen, c -> c.cast(0, 0), 14);
        Scene gone = Scenes.strangers(3).then(c -> c.fear(0, 1, 9)).then(c -> c.fear(0, 2, 1)).then(c -> Due.sherd(c, "bbb", 0))
            .then(SherdCity::send);
        edge.answers("nor SENT: another is cast", gone, c -> c.cast(0, 0), 2);
        edge.answers("the last DAY of that", gone, c -> c.cast(0, 3599), 2);
        edge.answers("the DAY behind", gone, c -> c.cast(0, 3600), 1);
    }

    /** A MAN of a CLUB that is BOUND to 1, and 1 and 2, who are at home on DAYS 5 to 9 but may be cast. */
    private static void notSentButNeedNotCome() {
        Scene bound = Scenes.NEW.then(c -> {
            c.ward(0, 0);
            c.ward(0, 0);
            c.man(0, 3, 1, 1);
            c.man(1, -1, 1, 1);
            c.man(1, -1, 1, 1);
            c.harvest(1, 5, 9);
            c.bargain(3, 1, 0, 9999);
        });
        for (int d = 4; d < 11; d++) {
            int day = d;
            edge.answers("x need not COME, DAY " + d, bound, c -> c.cast(0, day), 1);
            edge.answers("y need not COME, DAY " + d, bound.then(c -> c.fear(0, 2, 3)), c -> c.cast(0, day), 2);
            edge.answers("y of less need not COME, DAY " + d, bound.then(c -> c.fear(0, 2, 2)), c -> c.cast(0, day), 1);
            edge.answers("the one who is dreaded need not COME, DAY " + d, bound.then(c -> c.bargain(3, 0, 0, 9999))
                .then(c -> c.fear(0, 2, 1)), c -> c.cast(0, day), 2);
        }
    }

    /** CAST on a DAY is by the DREAD on that DAY, whatever it is TODAY. */
    private static void dreadOnThatDay() {
        Scene men = Scenes.men(4).then(c -> c.fear(0, 1, 2)).then(c -> c.days(5)).then(c -> c.word(2, 5, 0)).then(c -> c.days(5));
        Scene clubs = Scenes.NEW.then(c -> {
            c.ward(0, 0);
            for (int i = 0; i < 4; i++) {
                c.man(0, i == 0 ? 3 : -1, 1, 1);
            }
            c.bargain(3, 3, 0, 9999);
            c.fear(0, 1, 2);
            c.days(5);
        });
        Scene breaks = clubs.then(c -> c.word(2, 5, 0)).then(c -> c.days(5));
        Scene mends = clubs.then(c -> c.fear(0, 1, 4)).then(c -> c.word(3, 5, 0)).then(c -> c.days(5));
        int[] days = {0, 4, 5, 6, 10, 9999};
        for (int d : days) {
            edge.answers("the greatest DREAD on " + d, men, c -> c.cast(0, d), d < 5 ? 1 : 2);
            edge.answers("the DREAD of y on " + d, breaks, c -> c.cast(0, d), d < 5 ? 3 : 2);
            edge.answers("the DREAD of x on " + d, mends, c -> c.cast(0, d), d < 5 ? 1 : 3);
        }
    }

    /** Whether one is SENT, who is cast and who breaks is looked at on that DAY: MAN 1 is SENT on 5 to 364. */
    private static void sentOnThatDay() {
        Scene men = Scenes.NEW.then(c -> {
            c.ward(0, 0);
            for (int i = 0; i < 4; i++) {
                Scenes.man(c, 0, i == 0 ? 3 : -1, Scenes.stranger(i), "pa");
            }
            Due.sherd(c, "bbb", 0);
            c.fear(0, 2, 1);
            c.bargain(3, 3, 400, 500);
        });
        Scene sent = Scenes.onDay(men, 5).then(c -> Due.rule(c, "years 1;")).then(SherdCity::send);
        Scene x = sent.then(c -> c.bargain(3, 1, 0, 9999));
        Scene most = sent.then(c -> c.fear(0, 1, 9));
        Scene y = sent.then(c -> c.bargain(3, 3, 0, 9999)).then(c -> c.fear(0, 1, 4));
        int[] days = {0, 4, 5, 6, 364, 365, 9999};
        for (int more : new int[] {0, 400}) {
            for (int d : days) {
                boolean there = d < 5 || d > 364;
                String at = " on " + d + ", TODAY " + (5 + more);
                edge.answers("x who is SENT then" + at, Scenes.onDay(x, more), c -> c.cast(0, d), there ? 1 : 2);
                edge.answers("the greatest is SENT then" + at, Scenes.onDay(most, more), c -> c.cast(0, d), there ? 1 : 2);
                edge.answers("y who is SENT then" + at, Scenes.onDay(y, more), c -> c.cast(0, d), there ? 1 : 3);
                edge.answers("he himself" + at, Scenes.onDay(sent, more), c -> c.cast(1, d), there ? NONE : STATE);
            }
        }
    }

    private static void dreadThatBreaks() {
        Scene bound = Scenes.NEW.then(c -> {
            c.ward(0, 0);
            for (int i = 0; i < 4; i++) {
                Scenes.man(c, 0, 0, Scenes.stranger(i), "pa");
            }
            c.bargain(0, 3, 0, 9999);
        });
        edge.answers("BREAK is 3 at first: 2 more isn't enough", bound.then(c -> c.fear(0, 1, 2)), c -> c.cast(0, 0), 3);
        edge.answers("3 more is", bound.then(c -> c.fear(0, 1, 3)), c -> c.cast(0, 0), 1);
        edge.answers("BOUND to himself", bound, c -> c.cast(3, 0), NONE);
        edge.answers("BOUND to himself, he casts whom he dreads", bound.then(c -> c.fear(3, 0, 1)), c -> c.cast(3, 0), 0);
        edge.answers("with BREAK 0 there is such a one always", bound.then(c -> c.rule(1, 0)), c -> c.cast(0, 0), NONE);
        for (int i = 0; i < 3; i++) {
            int y = i;
            int man = y == 1 ? 2 : 1;
            edge.answers("any other y: MAN " + y, bound.then(c -> c.fear(man, y, 3)), c -> c.cast(man, 0), y);
            edge.answers("and less of him", bound.then(c -> c.fear(man, y, 2)), c -> c.cast(man, 0), 3);
        }
        Scene break0 = bound.then(c -> c.rule(1, 0)).then(c -> c.rule(2, 20));
        edge.answers("x himself is no y: nobody else is dreaded as much", break0.then(c -> c.fear(0, 3, 1)), c -> c.cast(0, 0), 3);
        edge.answers("one as much with BREAK 0 is a y, and none is of LEAST", break0.then(c -> c.fear(0, 3, 1)).then(c -> c.fear(0, 2, 1)),
            c -> c.cast(0, 0), NONE);
        edge.answers("he himself is no y: alone with x he is true", Scenes.men(1).then(c -> c.man(0, 0, 1, 1))
            .then(c -> c.bargain(0, 0, 0, 0)).then(c -> c.rule(1, 0)).then(c -> c.rule(2, 20)), c -> c.cast(1, 0), 0);
        Scene breaks20 = bound.then(c -> c.rule(1, 20)).then(c -> c.fear(0, 1, 9)).then(c -> c.word(1, 5, 0))
            .then(c -> c.word(1, 5, 0));
        edge.answers("19 with BREAK 20", breaks20, c -> c.cast(0, 0), 3);
        edge.answers("20 with BREAK 20", breaks20.then(c -> c.word(1, 5, 0)), c -> c.cast(0, 0), 1);
        Scene more = breaks20.then(c -> c.word(1, 5, 0)).then(c -> c.fear(0, 3, 1));
        edge.answers("20 is less than 1 and BREAK 20", more, c -> c.cast(0, 0), 3);
        Scene xSent = bound.then(c -> Due.sherd(c, "ddd", 0)).then(SherdCity::send).then(c -> c.fear(0, 2, 1));
        edge.answers("x, who isn't SENT, else by DREAD", xSent, c -> c.cast(0, 0), 2);
        Scene ySent = bound.then(c -> Due.sherd(c, "bbb", 0)).then(SherdCity::send).then(c -> c.fear(0, 1, 9));
        edge.answers("y who is SENT breaks nothing", ySent, c -> c.cast(0, 0), 3);
        edge.answers("when he is back he does", ySent, c -> c.cast(0, 3600), 1);
        Scene below = bound.then(c -> c.rule(2, 20));
        edge.answers("x is cast whatever LEAST is", below, c -> c.cast(0, 0), 3);
    }
}
