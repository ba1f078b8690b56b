/** Promises 27 to 30: what the document says of their edges. */
public final class EdgeCountTest {
    private static final int BAD = SherdCity.BAD, NONE = SherdCity.NONE;
    private static final Edge edge = new Edge();

    public static void main(String[] args) {
        promise27();
        countAtItsEnds();
        certainAtItsEdge();
        knownOnADay();
        promise28();
        promise29();
        promise30();
        doubtAtItsEdge();
        moreThanFound();
        edge.end();
    }

    private static void promise27() {
        edge.takes("k isn't 0 to TODAY", Scenes.NEW, 0, 0, BAD, (c, v) -> c.count(v, 0));
        edge.takes("k isn't 0 to TODAY", Scenes.BUSY, 0, 6, BAD, (c, v) -> c.count(v, 1));
        edge.takes("k isn't 0 to TODAY", Scenes.FULL, 0, 9999, BAD, (c, v) -> c.count(v, 1));
        edge.takes("another what", Scenes.BUSY, 0, 6, BAD, (c, v) -> c.count(0, v));
        edge.refused("FIRST (NONE without MEN)", Scenes.NEW, c -> c.count(0, 1), NONE);
        edge.refused("who GOES (NONE)", Scenes.NEW, c -> c.count(0, 5), NONE);
        edge.refused("who GOES (NONE), with MEN", Scenes.men(3), c -> c.count(0, 5), NONE);
        edge.refused("BAD (k) is named ahead of NONE", Scenes.NEW, c -> c.count(1, 1), BAD);
        edge.refused("BAD (what) is named ahead of NONE", Scenes.NEW, c -> c.count(0, 7), BAD);
    }

    private static void tells(String sentence, Scene scene, int... want) {
        SherdCity c = scene.city();
        edge.tells(sentence, c, (x, v) -> x.count(x.many(0), v), want);
    }

    private static void countAtItsEnds() {
        tells("without MEN", Scenes.NEW, 0, NONE, 0, 0, 0, NONE, 0);
        Scene allGood = Scenes.NEW.then(c -> Due.rule(c, "good 1; enough 1;")).then(c -> sherds(c, "abc", 40, 0));
        tells("40 GOOD ones without MEN", allGood, 40, NONE, 0, 0, 0, NONE, 0);
        tells("nobody GOES with a LEAST of 0, though enough is true", allGood.then(c -> c.ward(0, 0))
            .then(c -> Scenes.man(c, 0, 0, "zzz", "pa")), 40, 0, 0, 0, 0, NONE, 0);
        Scene one = Scenes.strangers(1).then(c -> Due.sherd(c, "aaa", -1));
        tells("SECOND is 0 without others; none is no GATE", one, 1, 0, 1, 0, 0, 0, 1);
        Scene equal = Scenes.strangers(16).then(c -> Due.sherd(c, "ppp", 4)).then(c -> Due.sherd(c, "ooo", 0));
        tells("of several the least", equal, 2, 14, 1, 1, 1, 14, 0);
        Scene five = Scenes.strangers(2).then(c -> {
            for (int gate = -1; gate < 5; gate++) {
                sherds(c, "bbb", 5, gate);
            }
        });
        tells("TRIBES: all GATES, each once", five, 30, 1, 30, 0, 5, 1, 1);
        Scene all = Scenes.strangers(2).then(c -> sherds(c, "aaa", 40, 3));
        tells("all 40", all, 40, 0, 40, 0, 1, 0, 1);
        tells("enough isn't true", all.then(c -> Due.rule(c, "enough first > 40;")), 40, 0, 40, 0, 1, NONE, 0);
        tells("enough is true", all.then(c -> Due.rule(c, "enough first > 39;")), 40, 0, 40, 0, 1, 0, 1);
        tells("MAY BE isn't SURE", Scenes.strangers(1).then(c -> Due.sherd(c, "aa", 2)), 1, 0, 0, 0, 0, NONE, 0);
    }

    private static void sherds(SherdCity c, String name, int howMany, int gate) {
        for (int i = 0; i < howMany; i++) {
            Due.sherd(c, name, gate);
        }
    }

    private static void certainAtItsEdge() {
        Scene two = Scenes.NEW.then(c -> c.ward(0, 0)).then(c -> Scenes.man(c, 0, 0, "abc", "pa"))
            .then(c -> Scenes.man(c, 0, 0, "abd", "pa")).then(c -> sherds(c, "abc", 3, 0));
        edge.answers("his LEAST (3) is above MOST of each other (2)", two.then(c -> sherds(c, "abx", 2, 0)), c -> c.count(0, 6), 1);
        edge.answers("3 is not above 3", two.then(c -> sherds(c, "abx", 3, 0)), c -> c.count(0, 6), 0);
        edge.answers("his LEAST, not his MOST", two.then(c -> sherds(c, "abx", 9, 0)), c -> c.count(0, 6), 0);
        edge.answers("he GOES all the same", two.then(c -> sherds(c, "abx", 9, 0)), c -> c.count(0, 5), 0);
        Scene last = two.then(c -> sherds(c, "abd", 4, 0));
        edge.answers("each other: MAN 0, too", last.then(c -> Due.sherd(c, "abx", 0)), c -> c.count(0, 6), 0);
        edge.answers("above MOST of MAN 0", last, c -> c.count(0, 6), 1);
        edge.answers("SURE ones are of MOST, too", two.then(c -> sherds(c, "abd", 3, 0)), c -> c.count(0, 6), 0);
        edge.answers("if that is so: not without enough", two.then(c -> Due.rule(c, "enough 0;")), c -> c.count(0, 6), 0);
    }

    private static void knownOnADay() {
        Scene scene = Scenes.strangers(1).then(c -> c.days(5)).then(c -> Due.sherd(c, "aaa", 0)).then(c -> c.days(5))
            .then(c -> c.thrown(0)).then(c -> c.days(5));
        int[] days = {0, 4, 5, 6, 9, 10, 11, 15};
        int[] want = {0, 0, 1, 1, 1, 0, 0, 0};
        for (int i = 0; i < days.length; i++) {
            int day = days[i];
            edge.answers("FOUND on 5, THROWN on 10, KNOWN on " + day, scene, c -> c.count(day, 0), want[i]);
            edge.answers("LEAST as KNOWN on " + day, scene, c -> c.counted(0, day, false), want[i]);
            edge.answers("MOST as KNOWN on " + day, scene, c -> c.counted(0, day, true), want[i]);
        }
        Scene same = Scenes.strangers(1).then(c -> c.days(5)).then(c -> Due.sherd(c, "aaa", 0)).then(c -> c.thrown(0));
        edge.answers("FOUND and THROWN on one DAY", same, c -> c.count(5, 0), 0);
    }

    private static void promise28() {
        edge.refused("BAD: there is no such MAN, without any", Scenes.NEW, c -> c.counted(0, 0, true), BAD);
        edge.takes("there is no such MAN", Scenes.BUSY, 0, 4, BAD, (c, v) -> c.counted(v, 0, false));
        edge.takes("there is no such MAN (most)", Scenes.FULL, 0, 15, BAD, (c, v) -> c.counted(v, 0, true));
        edge.takes("there is no such k", Scenes.BUSY, 0, 6, BAD, (c, v) -> c.counted(0, v, false));
        edge.takes("there is no such k (most)", Scenes.FULL, 0, 9999, BAD, (c, v) -> c.counted(0, v, true));
        Scene all = Scenes.strangers(16).then(c -> sherds(c, "ppp", 39, 0)).then(c -> sherds(c, "pp", 1, 0));
        edge.answers("LEAST of the last of sixteen", all, c -> c.counted(15, 0, false), 39);
        edge.answers("MOST of him", all, c -> c.counted(15, 0, true), 40);
        edge.answers("LEAST of another", all, c -> c.counted(14, 0, false), 0);
        edge.answers("MOST of another", all, c -> c.counted(14, 0, true), 0);
        Scene several = Scenes.NEW.then(c -> c.ward(0, 0)).then(c -> Scenes.man(c, 0, 0, "ab", "pa"))
            .then(c -> Scenes.man(c, 0, 0, "ab", "po")).then(c -> Due.sherd(c, "ab", 0));
        edge.answers("of several no one is SURE", several, c -> c.counted(1, 0, false), 0);
        edge.answers("of several each is of those MEANT", several, c -> c.counted(1, 0, true), 1);
    }

    private static void promise29() {
        edge.takes("two counters (0, 1)", Scenes.BUSY, 0, 1, BAD, (c, v) -> c.tally(v, 0, 1));
        edge.takes("for each GATE", Scenes.BUSY, 0, 4, BAD, (c, v) -> c.tally(0, v, 1));
        edge.takes("a number (0 to 99)", Scenes.BUSY, 0, 99, BAD, (c, v) -> c.tally(1, 4, v));
        for (int counter = 0; counter < 2; counter++) {
            for (int gate = 0; gate < 5; gate++) {
                SherdCity c = new SherdCity();
                edge.is("0 at first", c.tally(counter, gate, 99), 0);
                edge.is("not that of the other counter", c.tally(1 - counter, gate, 1), 0);
                edge.is("nor that of another GATE", c.tally(counter, (gate + 1) % 5, 1), 0);
                edge.is("what it was", c.tally(counter, gate, 0), 99);
                edge.is("what it was then", c.tally(counter, gate, 0), 0);
            }
        }
    }

    private static void promise30() {
        edge.takes("another what", Scenes.BUSY, 0, 7, BAD, SherdCity::tallies);
        edge.refused("UNLIKE (NONE)", Scenes.NEW, c -> c.tallies(0), NONE);
        Scene same = Scenes.NEW.then(c -> {
            for (int i = 0; i < 10; i++) {
                c.tally(i % 2, i / 2, 99);
            }
        });
        edge.refused("UNLIKE (NONE), where both tell the same", same, c -> c.tallies(0), NONE);
        edge.answers("DOUBT is 0 then", same, c -> c.tallies(1), 0);
        edge.answers("UNLIKE: the first GATE", Scenes.NEW.then(c -> c.tally(1, 0, 1)), c -> c.tallies(0), 0);
        edge.answers("UNLIKE: the last GATE", Scenes.NEW.then(c -> c.tally(0, 4, 1)), c -> c.tallies(0), 4);
        edge.answers("of several the first", same.then(c -> c.tally(1, 3, 0)).then(c -> c.tally(0, 2, 98)), c -> c.tallies(0), 2);
        edge.answers("DOUBT: all GATES together", same.then(c -> c.tally(1, 3, 0)).then(c -> c.tally(0, 2, 98)), c -> c.tallies(1), 100);
        Scene most = Scenes.NEW.then(c -> {
            for (int gate = 0; gate < 5; gate++) {
                c.tally(gate % 2, gate, 99);
            }
        });
        edge.answers("DOUBT at most", most, c -> c.tallies(1), 495);
    }

    private static void doubtAtItsEdge() {
        Scene ahead = Scenes.strangers(2).then(c -> sherds(c, "aaa", 5, 0)).then(c -> sherds(c, "bbb", 2, 0));
        edge.answers("2 is less than 5 less 2", ahead.then(c -> c.tally(0, 4, 2)), c -> c.tallies(2), 0);
        edge.answers("3 is 5 less 2 at least", ahead.then(c -> c.tally(1, 4, 3)), c -> c.tallies(2), 1);
        edge.answers("1 and 2 of two GATES", ahead.then(c -> c.tally(1, 4, 2)).then(c -> c.tally(0, 0, 1)), c -> c.tallies(2), 1);
        Scene even = Scenes.strangers(2).then(c -> sherds(c, "aaa", 2, 0)).then(c -> sherds(c, "bbb", 2, 0));
        edge.answers("a DOUBT of 0 COULD matter, if there is no more", even, c -> c.tallies(2), 1);
        edge.answers("without MEN, too", Scenes.NEW, c -> c.tallies(2), 1);
        edge.answers("a DOUBT of 0 can't, if there is 1 more", even.then(c -> Due.sherd(c, "bbb", 0)), c -> c.tallies(2), 0);
        edge.answers("as KNOWN TODAY", even.then(c -> Due.sherd(c, "bbb", 0)).then(c -> c.days(1)).then(c -> c.thrown(4)),
            c -> c.tallies(2), 1);
    }

    private static void moreThanFound() {
        for (int g = 0; g < 5; g++) {
            int gate = g;
            Scene all = Scenes.strangers(1).then(c -> sherds(c, "aaa", 40, gate));
            edge.answers("40 more are found than told, and 100 more", all, c -> c.tallies(3 + gate), 60);
            Scene told = Scenes.NEW.then(c -> c.tally(0, gate, 99)).then(c -> c.tally(1, gate, 7));
            edge.answers("99 more are told than found, and 100 more", told, c -> c.tallies(3 + gate), 199);
            edge.answers("through another GATE", all, c -> c.tallies(3 + (gate + 1) % 5), 100);
        }
        Scene none = Scenes.strangers(1).then(c -> sherds(c, "aaa", 3, -1)).then(c -> sherds(c, "zzz", 3, 0));
        for (int gate = 0; gate < 5; gate++) {
            int what = 3 + gate;
            edge.answers("through none, and those that aren't GOOD", none, c -> c.tallies(what), 100);
        }
    }
}
