/** Promises 18 to 22: what the document says of their edges. */
public final class EdgeSherdTest {
    private static final int BAD = SherdCity.BAD, FULL = SherdCity.FULL, NONE = SherdCity.NONE, STATE = SherdCity.STATE;
    private static final Edge edge = new Edge();

    public static void main(String[] args) {
        promise18();
        badAheadOfFull();
        howAtItsEnds();
        promise19();
        whoseItIs();
        promise20();
        promise21();
        meantAtItsEnds();
        fits();
        promise22();
        edge.end();
    }

    private static void promise18() {
        edge.takesNames("a NAME (name) is none", Scenes.BUSY, (c, v) -> c.sherd(v, 0, -1, -1, 0, 0));
        edge.takesNamesOrNone("a NAME (father if not 0) is none", Scenes.BUSY, (c, v) -> c.sherd(1, v, -1, -1, 0, 0));
        edge.takesNamesOrNone("a NAME (second if not 0) is none", Scenes.BUSY, (c, v) -> c.sherd(1, 0, -1, -1, v, 0));
        edge.takes("there is no such WARD (-1: none)", Scenes.BUSY, -1, 2, BAD, (c, v) -> c.sherd(1, 0, v, -1, 0, 0));
        edge.refused("there is no such WARD, without any", Scenes.NEW, c -> c.sherd(1, 0, 0, -1, 0, 0), BAD);
        edge.takes("there is no such GATE (-1: none)", Scenes.BUSY, -1, 4, BAD, (c, v) -> c.sherd(1, 0, -1, v, 0, 0));
        edge.takes("how isn't 0 to 19999", Scenes.BUSY, 0, 19999, BAD, (c, v) -> c.sherd(1, 0, -1, -1, 0, v));
        SherdCity c = new SherdCity();
        for (int i = 0; i < 40; i++) {
            edge.is("SHERDS, 40 at most, numbered as they come", c.sherd(1, 0, -1, -1, 0, 0), i);
        }
        edge.is("FULL: the one behind 40", c.sherd(1, 0, -1, -1, 0, 0), FULL);
        edge.refused("FULL", Scenes.FULL, x -> x.sherd(1, 0, -1, -1, 0, 0), FULL);
        edge.answers("THROWN ones are SHERDS still", Scenes.FULL.then(x -> x.thrown(39)), x -> x.sherd(1, 0, -1, -1, 0, 0), FULL);
    }

    private static void badAheadOfFull() {
        Scene full = Scenes.FULL;
        edge.refusesNoNames("BAD (name) is named ahead of FULL", full, (c, v) -> c.sherd(v, 0, -1, -1, 0, 0));
        edge.refused("BAD (father) is named ahead of FULL", full, c -> c.sherd(1, 27, -1, -1, 0, 0), BAD);
        edge.refused("BAD (second) is named ahead of FULL", full, c -> c.sherd(1, 0, -1, -1, 27, 0), BAD);
        edge.refusesOutside("BAD (WARD) is named ahead of FULL", full, -1, 7, BAD, (c, v) -> c.sherd(1, 0, v, -1, 0, 0));
        edge.refusesOutside("BAD (GATE) is named ahead of FULL", full, -1, 4, BAD, (c, v) -> c.sherd(1, 0, -1, v, 0, 0));
        edge.refusesOutside("BAD (how) is named ahead of FULL", full, 0, 19999, BAD, (c, v) -> c.sherd(1, 0, -1, -1, 0, v));
    }

    private static void howAtItsEnds() {
        int[] how = {0, 9999, 10000, 19999};
        int[] ready = {0, 0, 1, 1};
        int[] hand = {0, 9999, 0, 9999};
        for (int i = 0; i < how.length; i++) {
            SherdCity c = Scenes.onDay(Scenes.NEW, 9999).city();
            c.sherd(387420488, 0, -1, -1, 0, how[i]);
            edge.tells("how " + how[i], c, (x, v) -> x.sherdOf(0, v), 387420488, 0, NONE, NONE, 0, ready[i], hand[i], 9999, NONE);
        }
    }

    private static void promise19() {
        edge.answers("without MEN none is made", Scenes.NEW, SherdCity::vote, 0);
        edge.answers("nor if none casts", Scenes.men(16), SherdCity::vote, 0);
        Scene all = Scenes.men(16).then(c -> c.rule(2, 0));
        edge.answers("one for each MAN", all, SherdCity::vote, 16);
        edge.answers("for none who doesn't COME", all.then(c -> c.harvest(0, 0, 0)), SherdCity::vote, 0);
        Scene room = all.then(c -> sherds(c, 24));
        edge.answers("room for all: 24 and 16 are 40", room, SherdCity::vote, 16);
        edge.answers("they are all there", room.then(SherdCity::vote), c -> c.many(5), 40);
        edge.refused("FULL: there is not room for all", all.then(c -> sherds(c, 25)), SherdCity::vote, FULL);
        edge.refused("FULL: there is no room", all.then(c -> sherds(c, 40)), SherdCity::vote, FULL);
        edge.refused("FULL", Scenes.FULL, SherdCity::vote, FULL);
        edge.answers("none needs no room", Scenes.men(16).then(c -> sherds(c, 40)), SherdCity::vote, 0);
        Scene made = Scenes.onDay(Scenes.strangers(2).then(c -> c.fear(1, 0, 1)).then(c -> c.style(1, 9999, 3)), 9999)
            .then(SherdCity::vote);
        edge.tells("a SHERD of a VOTE on the last DAY", made.city(), (c, v) -> c.sherdOf(0, v), Due.name("aaa"), Due.name("pa"), 0, 0,
            0, 0, 9999, 9999, NONE, 1, 1, 1);
    }

    /** The writer, of WARD 1, TRIBE 4 and HAND 77, casts one of WARD 2, TRIBE 3 and HAND 55, whose STYLE is another. */
    private static void whoseItIs() {
        for (int how = 0; how < 4; how++) {
            int h = how;
            Scene scene = Scenes.NEW.then(c -> {
                c.ward(0, 0);
                c.ward(4, 0);
                c.ward(3, 600);
                Scenes.man(c, 1, 0, "writer", "fwrit");
                Scenes.man(c, 2, 1, "cast", "fcast");
                c.style(0, 77, h);
                c.style(1, 55, 3 - h);
                c.fear(0, 1, 9);
            });
            int father = (how & 1) != 0 ? Due.name("fcast") : 0;
            int ward = (how & 2) != 0 ? 2 : NONE;
            edge.answers("one, as the other doesn't COME", scene, SherdCity::vote, 1);
            edge.tells("what a VOTE makes, how " + how, scene.then(SherdCity::vote).city(), (c, v) -> c.sherdOf(0, v), Due.name("cast"),
                father, ward, 4, 0, 0, 77, 0, NONE, 1, 2, 1);
        }
        Scene all = Scenes.NEW.then(c -> {
            c.ward(2, 0);
            for (int i = 0; i < 4; i++) {
                Scenes.man(c, 0, -1, Scenes.stranger(i), "pa");
                c.style(i, 10 + i, 0);
            }
            c.fear(0, 3, 1);
            c.fear(2, 1, 1);
            c.fear(3, 0, 1);
        });
        SherdCity c = all.city();
        edge.is("one for each MAN whose CAST isn't nobody", c.vote(), 3);
        int[] writers = {0, 2, 3};
        int[] whom = {3, 1, 0};
        for (int i = 0; i < 3; i++) {
            edge.is("by numbers: the HAND of " + i, c.sherdOf(i, 6), 10 + writers[i]);
            edge.is("by numbers: the NAME of " + i, c.sherdOf(i, 0), Due.name(Scenes.stranger(whom[i])));
        }
        edge.is("another VOTE of the same DAY makes as many", c.vote(), 3);
        edge.is("and they are numbered on", c.many(5), 6);
    }

    private static void sherds(SherdCity c, int howMany) {
        for (int i = 0; i < howMany; i++) {
            c.sherd(1, 0, -1, -1, 0, 0);
        }
    }

    private static void promise20() {
        edge.refused("BAD: there is none such, without any", Scenes.NEW, c -> c.thrown(0), BAD);
        edge.takes("BAD: there is none such", Scenes.BUSY, 0, 6, BAD, SherdCity::thrown);
        edge.refused("STATE: it was", Scenes.BUSY, c -> c.thrown(2), STATE);
        edge.refused("STATE: it was TODAY", Scenes.FULL, c -> c.thrown(0), STATE);
        edge.answers("the last of 40", Scenes.FULL, c -> c.thrown(39), 1);
        Scene day0 = Scenes.strangers(1).then(c -> Due.sherd(c, "aaa", 0)).then(c -> c.thrown(0));
        edge.answers("THROWN on DAY 0", day0, c -> c.sherdOf(0, 8), 0);
        edge.answers("it counts no more on that DAY", day0, c -> c.count(0, 0), 0);
        edge.refused("STATE: it was on DAY 0", day0, c -> c.thrown(0), STATE);
        Scene later = Scenes.onDay(Scenes.strangers(1).then(c -> Due.sherd(c, "aaa", 0)), 9999).then(c -> c.thrown(0));
        edge.answers("THROWN on DAY 9999", later, c -> c.sherdOf(0, 8), 9999);
        edge.answers("it counts ahead of that", later, c -> c.count(9998, 0), 1);
        edge.answers("no more from that DAY on", later, c -> c.count(9999, 0), 0);
    }

    private static void promise21() {
        edge.refused("BAD: there is none such, without any", Scenes.NEW, c -> c.sherdOf(0, 0), BAD);
        edge.takes("BAD: there is none such", Scenes.BUSY, 0, 6, BAD, (c, v) -> c.sherdOf(v, 0));
        edge.takes("BAD: there is none such of 40", Scenes.FULL, 0, 39, BAD, (c, v) -> c.sherdOf(v, 11));
        edge.takes("another what", Scenes.BUSY, 0, 11, BAD, (c, v) -> c.sherdOf(0, v));
        edge.refused("WARD (NONE, if none)", Scenes.BUSY, c -> c.sherdOf(1, 2), NONE);
        edge.refused("GATE (NONE, if none)", Scenes.BUSY, c -> c.sherdOf(5, 3), NONE);
        edge.refused("that on which it was THROWN (NONE)", Scenes.BUSY, c -> c.sherdOf(0, 8), NONE);
        edge.answers("WARD 0 is one", Scenes.BUSY, c -> c.sherdOf(0, 2), 0);
        edge.answers("GATE 0 is one", Scenes.BUSY, c -> c.sherdOf(0, 3), 0);
        edge.refused("BAD is named ahead of NONE", Scenes.BUSY, c -> c.sherdOf(7, 2), BAD);
    }

    private static void meantAtItsEnds() {
        Scene same = Scenes.NEW.then(c -> {
            c.ward(0, 0);
            for (int i = 0; i < 16; i++) {
                c.man(0, -1, Due.name("ab"), 1);
            }
            Due.sherd(c, "ab", 0);
            Due.sherd(c, "abc", 0);
            Due.sherd(c, "abcd", 0);
        });
        meant("several: all sixteen EXACTLY", same, 0, 3, 65535);
        meant("several: all sixteen, not so", same, 1, 3, 65535);
        meant("nobody", same, 2, 0, 0);
        Scene last = Scenes.strangers(16).then(c -> Due.sherd(c, "ppp", 0)).then(c -> Due.sherd(c, "pp", 0));
        meant("SURE: the last of sixteen", last, 0, 1, 1 << 15);
        meant("MAY BE: the last of sixteen", last, 1, 2, 1 << 15);
        Scene none = Scenes.NEW.then(c -> Due.sherd(c, "ab", 0));
        meant("nobody without MEN", none, 0, 0, 0);
        Scene comes = none.then(c -> c.ward(0, 0)).then(c -> Scenes.man(c, 0, 0, "abc", "pa"));
        meant("MAY BE, when one has come", comes, 0, 2, 1);
        Scene exact = comes.then(c -> Scenes.man(c, 0, 0, "ab", "pa"));
        meant("if it FITS somebody EXACTLY, those that it does so", exact, 0, 1, 2);
        meant("several EXACTLY", exact.then(c -> Scenes.man(c, 0, 0, "ab", "pa")), 0, 3, 6);
        Scene away = exact.then(c -> Due.sherd(c, "ab", 0)).then(SherdCity::send);
        meant("a MAN who is SENT is MEANT as well", away, 0, 1, 2);
    }

    private static void meant(String sentence, Scene scene, int sherd, int how, int bits) {
        edge.answers(sentence, scene, c -> c.sherdOf(sherd, 9), how);
        edge.answers(sentence + ", as bits", scene, c -> c.sherdOf(sherd, 10), bits);
        edge.answers(sentence + ", GOOD by an empty TEXT", scene, c -> c.sherdOf(sherd, 11), bits == 0 ? 0 : 1);
    }

    private static void fits() {
        Scene two = Scenes.NEW.then(c -> c.ward(0, 0)).then(c -> c.ward(1, 0)).then(c -> Scenes.man(c, 0, 0, "abcdef", "pa"))
            .then(c -> Scenes.man(c, 1, 0, "abcdef", "po"));
        int[][] want = {{0, -1, 3}, {Due.name("pa"), -1, 1}, {Due.name("po"), -1, 2}, {0, 0, 1}, {0, 1, 2}, {Due.name("pa"), 1, 0},
            {Due.name("p"), -1, 0}, {Due.name("po"), 1, 2}};
        for (int[] w : want) {
            for (String name : new String[] {"abcdef", "abcde", "bcdef", "abcdez", "zbcdef"}) {
                Scene sherd = two.then(c -> c.sherd(Due.name(name), w[0], w[1], -1, 0, 0));
                edge.answers("its FATHER and WARD, where it has such, are his: " + name, sherd, c -> c.sherdOf(0, 10), w[2]);
            }
            for (String name : new String[] {"abcd", "cdefgh", "abxyef", "badcef", "bacdef", "zbcdez"}) {
                Scene sherd = two.then(c -> c.sherd(Due.name(name), w[0], w[1], -1, 0, 0));
                edge.answers("its NAME is 1 APART from his at most: " + name, sherd, c -> c.sherdOf(0, 10), 0);
            }
        }
    }

    private static void promise22() {
        edge.takesNames("BAD: one is none", Scenes.BUSY, (c, v) -> c.apart(v, 1));
        edge.takesNames("BAD: the other is none", Scenes.BUSY, (c, v) -> c.apart(1, v));
        edge.refused("BAD: both are none", Scenes.NEW, c -> c.apart(0, 0), BAD);
        apart("the same", "zzzzzz", "zzzzzz", 0);
        apart("one letter of one changed", "a", "z", 1);
        apart("put in at the end", "abcde", "abcdef", 1);
        apart("put in ahead", "bcdef", "abcdef", 1);
        apart("put in within", "abdef", "abcdef", 1);
        apart("all six changed", "aaaaaa", "zzzzzz", 6);
        apart("one changed and five put in", "a", "zzzzzz", 6);
        apart("five put in", "a", "bbbabb", 5);
        apart("two letters that stand the wrong way round", "ab", "ba", 2);
        apart("each one further by one", "abcdef", "bcdefg", 2);
        apart("27 times as much each: the letters of 27 and 1", "aa", "a", 1);
    }

    private static void apart(String sentence, String name, String other, int want) {
        edge.answers(sentence, Scenes.NEW, c -> c.apart(Due.name(name), Due.name(other)), want);
        edge.answers(sentence + ", the other way", Scenes.NEW, c -> c.apart(Due.name(other), Due.name(name)), want);
    }
}
