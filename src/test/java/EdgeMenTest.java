/** Promises 1 to 13: what the document says of their edges. */
public final class EdgeMenTest {
    private static final int BAD = SherdCity.BAD, FULL = SherdCity.FULL, NONE = SherdCity.NONE, STATE = SherdCity.STATE;
    private static final Edge edge = new Edge();

    public static void main(String[] args) {
        promise1();
        promise2();
        daysGoBy();
        promise3();
        promise4();
        promise5();
        promise6();
        promise7();
        promise8();
        promise9();
        wordsPass();
        daysAtOnce();
        whereverTheyAre();
        promise10();
        promise11();
        dreadAtItsEnds();
        promise12();
        promise13();
        lastDayOfBeingSent();
        edge.end();
    }

    private static void promise1() {
        SherdCity c = new SherdCity();
        edge.tells("DAY 0; all is empty", c, SherdCity::many, 0, 0, 0, 0, 0, 0, 0, 0, 0, 0, 0, 9, 0, 0, BAD);
        edge.tells("THE LAW is (at first) one of an empty TEXT", c, SherdCity::law, 10, 0, 0, 0, 0, BAD);
        edge.tells("TALLIES are 0 at first", c, SherdCity::tallies, NONE, 0, 1, 100, 100, 100, 100, 100, BAD);
        edge.tells("HANDS of an empty HEAP", c, SherdCity::hands, 0, 0, BAD);
        for (int i = 0; i < 4; i++) {
            edge.is("LAWS are not read at first", c.force(i), -8);
            edge.is("SHEETS are missing at first", c.put(i, 0, 0), -11);
            edge.is("SHELVES hold nothing at first", c.taken(i, 0), -11);
        }
        edge.is("no WARD", c.harvest(0, 0, 0), BAD);
        edge.is("no MAN", c.of(0, 0), BAD);
        edge.is("no WORD", c.heard(0, 0), BAD);
        edge.is("no SHERD", c.sherdOf(0, 0), BAD);
        edge.is("no BARGAIN", c.bound(0, 0), NONE);
        edge.is("no ROW", c.row(0, 0), -9);
        edge.is("no TRACE", c.trace(0), NONE);
        edge.is("no DAY is WET", c.wet(0), 1);
        edge.is("nothing is kept", c.again(), NONE);
        edge.is("LIMIT 300 at first", c.rule(0, 0), 300);
        edge.is("BREAK 3 at first", c.rule(1, 0), 3);
        edge.is("LEAST 1 at first", c.rule(2, 0), 1);
        edge.is("SLACK 4 at first", c.rule(3, 0), 4);
        SherdCity other = Scenes.BUSY.city();
        edge.is("another object is empty still", new SherdCity().many(2), 0);
        edge.is("whatever this one has", other.many(2), 5);
    }

    private static void promise2() {
        edge.takes("n DAYS (1 to 400)", Scenes.NEW, 1, 400, BAD, SherdCity::days);
        edge.takes("n DAYS (1 to 400)", Scenes.BUSY, 1, 400, BAD, SherdCity::days);
        edge.answers("the answer is TODAY", Scenes.BUSY, c -> c.days(400), 406);
        Scene late = Scenes.onDay(Scenes.men(2).then(c -> c.word(0, 1, 0)), 9600);
        edge.answers("9999 itself is a DAY", late, c -> c.days(399), 9999);
        edge.refused("STATE: it would be above 9999", late, c -> c.days(400), STATE);
        edge.refused("STATE: one DAY behind the last", Scenes.FULL, c -> c.days(1), STATE);
        edge.refused("STATE: 400 behind the last", Scenes.FULL, c -> c.days(400), STATE);
        edge.refusesOutside("BAD is named ahead of STATE", Scenes.FULL, 1, 400, BAD, SherdCity::days);
        Scene told = Scenes.onDay(Scenes.men(2), 9999).then(c -> c.word(0, 1, 0));
        edge.refused("a WORD doesn't pass, if no DAY goes by", told, c -> c.days(1), STATE);
        edge.answers("so the other has not HEARD it", told.then(c -> c.days(1)), c -> c.heard(1, 0), NONE);
    }

    private static void daysGoBy() {
        Scene apart = Scenes.NEW.then(c -> {
            for (int i = 0; i < 3; i++) {
                c.ward(i, 0);
                c.man(i, i < 2 ? 5 : -1, 1, 1);
            }
            c.man(0, -1, 1, 1);
        });
        for (int day = 0; day < 7; day++) {
            Scene told = Scenes.onDay(apart, day).then(c -> c.word(0, 1, 0)).then(c -> c.days(1));
            int club = day % 3 == 0 ? day + 1 : NONE;
            edge.answers("DAY " + day + " goes by: to all of their CLUB, if that is 0 modulo 3", told, c -> c.heard(1, 0), club);
            edge.answers("to all MEN of their WARD on every DAY", told, c -> c.heard(3, 0), day + 1);
            edge.answers("not of none", told, c -> c.heard(2, 0), NONE);
            edge.answers("who HEARD it already keeps his DAY", told, c -> c.heard(0, 0), day);
        }
        Scene none = apart.then(c -> c.word(0, 1, 3)).then(c -> c.days(400));
        edge.answers("none is no CLUB in 400 DAYS either", none, c -> c.heard(2, 0), NONE);
        Scene last = Scenes.onDay(apart, 9998).then(c -> c.word(0, 1, 0)).then(c -> c.days(1));
        edge.answers("HEARD on the last of all DAYS", last, c -> c.heard(3, 0), 9999);
        Scene chain = apart.then(c -> c.man(1, -1, 1, 1)).then(c -> c.word(0, 1, 0)).then(c -> c.days(1));
        edge.answers("from those who had HEARD it ahead of that going by alone", chain, c -> c.heard(4, 0), NONE);
        edge.answers("and a DAY later from the new ones", chain.then(c -> c.days(1)), c -> c.heard(4, 0), 2);
    }

    private static void promise3() {
        edge.takes("BAD: there is no such DAY", Scenes.NEW, 0, 9999, BAD, SherdCity::wet);
        edge.takes("BAD: there is no such DAY", Scenes.BUSY, 0, 9999, BAD, SherdCity::wet);
        edge.refused("STATE: it is already", Scenes.BUSY, c -> c.wet(5), STATE);
        edge.answers("how many are", Scenes.BUSY, c -> c.wet(6), 3);
        Scene nineteen = wet(19);
        edge.answers("20 at most: the twentieth", nineteen, c -> c.wet(9999), 20);
        edge.refused("FULL: the one behind 20", wet(20), c -> c.wet(9999), FULL);
        edge.refused("STATE is named ahead of FULL", wet(20), c -> c.wet(19), STATE);
        edge.refusesOutside("BAD is named ahead of FULL", wet(20), 0, 9999, BAD, SherdCity::wet);
        edge.refused("FULL on the last of all DAYS", Scenes.FULL, c -> c.wet(1), FULL);
    }

    private static Scene wet(int howMany) {
        return Scenes.men(1).then(c -> {
            for (int i = 0; i < howMany; i++) {
                c.wet(i);
            }
        });
    }

    private static void promise4() {
        edge.takes("TRIBES 0 to 4", Scenes.NEW, 0, 4, BAD, (c, v) -> c.ward(v, 0));
        edge.takes("MINUTES (0 to 600)", Scenes.BUSY, 0, 600, BAD, (c, v) -> c.ward(0, v));
        SherdCity c = new SherdCity();
        for (int i = 0; i < 8; i++) {
            edge.is("WARDS, 8 at most, numbered as they come", c.ward(4, 600), i);
        }
        edge.is("FULL: the ninth", c.ward(0, 0), FULL);
        edge.refused("FULL", Scenes.FULL, x -> x.ward(0, 0), FULL);
        edge.refusesOutside("BAD (a TRIBE) is named ahead of FULL", Scenes.FULL, 0, 4, BAD, (x, v) -> x.ward(v, 0));
        edge.refusesOutside("BAD (MINUTES) is named ahead of FULL", Scenes.FULL, 0, 600, BAD, (x, v) -> x.ward(0, v));
    }

    private static void promise5() {
        edge.refused("BAD: there is no such WARD, without any", Scenes.NEW, c -> c.harvest(0, 0, 0), BAD);
        edge.takes("BAD: there is no such WARD", Scenes.BUSY, 0, 2, BAD, (c, v) -> c.harvest(v, 0, 9999));
        edge.takes("no such DAY (first)", Scenes.BUSY, 0, 9999, BAD, (c, v) -> c.harvest(1, v, 9999));
        edge.takes("no such DAY (last)", Scenes.BUSY, 0, 9999, BAD, (c, v) -> c.harvest(1, 0, v));
        edge.refused("last is ahead of first", Scenes.BUSY, c -> c.harvest(1, 6, 5), BAD);
        edge.refused("last is ahead of first by all DAYS", Scenes.BUSY, c -> c.harvest(1, 9999, 0), BAD);
        edge.answers("first and last may be the same", Scenes.BUSY, c -> c.harvest(1, 6, 6), 1);
        Scene one = Scenes.men(1).then(c -> c.harvest(0, 3, 4)).then(c -> c.harvest(0, 6, 6));
        int[] comes = {1, 1, 1, 1, 1, 1, 0, 1};
        for (int day = 0; day < comes.length; day++) {
            int d = day;
            edge.answers("one; the latest told: on DAY " + d, one, c -> c.comes(0, d), comes[d]);
        }
        Scene all = Scenes.men(1).then(c -> c.harvest(0, 0, 9999));
        edge.answers("from the first DAY", all, c -> c.comes(0, 0), 0);
        edge.answers("to the last DAY", all, c -> c.comes(0, 9999), 0);
    }

    private static void promise6() {
        edge.refused("BAD: there is no such WARD, without any", Scenes.NEW, c -> c.man(0, 0, 1, 1), BAD);
        edge.takes("BAD: there is no such WARD", Scenes.BUSY, 0, 2, BAD, (c, v) -> c.man(v, 0, 1, 1));
        edge.takes("a CLUB (0 to 5; -1 none)", Scenes.BUSY, -1, 5, BAD, (c, v) -> c.man(0, v, 1, 1));
        edge.takesNames("a NAME is none", Scenes.BUSY, (c, v) -> c.man(0, 0, v, 1));
        edge.takesNames("a NAME (the FATHER) is none", Scenes.BUSY, (c, v) -> c.man(0, 0, 1, v));
        SherdCity c = new SherdCity();
        c.ward(0, 0);
        for (int i = 0; i < 16; i++) {
            edge.is("MEN, 16 at most, numbered as they come", c.man(0, -1, 1, 1), i);
        }
        edge.is("FULL: the seventeenth", c.man(0, -1, 1, 1), FULL);
        edge.refused("FULL", Scenes.FULL, x -> x.man(0, 0, 1, 1), FULL);
        edge.refusesOutside("BAD (a WARD) is named ahead of FULL", Scenes.FULL, 0, 7, BAD, (x, v) -> x.man(v, 0, 1, 1));
        edge.refusesOutside("BAD (a CLUB) is named ahead of FULL", Scenes.FULL, -1, 5, BAD, (x, v) -> x.man(0, v, 1, 1));
        edge.refusesNoNames("BAD (a NAME) is named ahead of FULL", Scenes.FULL, (x, v) -> x.man(0, 0, v, 1));
        edge.refusesNoNames("BAD (a FATHER) is named ahead of FULL", Scenes.FULL, (x, v) -> x.man(0, 0, 1, v));
    }

    private static void promise7() {
        edge.refused("BAD: there is no such MAN, without any", Scenes.NEW, c -> c.style(0, 0, 0), BAD);
        edge.takes("BAD: there is no such MAN", Scenes.BUSY, 0, 4, BAD, (c, v) -> c.style(v, 1, 3));
        edge.takes("a HAND (0 to 9999)", Scenes.BUSY, 0, 9999, BAD, (c, v) -> c.style(0, v, 0));
        edge.takes("how isn't 0 to 3", Scenes.BUSY, 0, 3, BAD, (c, v) -> c.style(0, 5, v));
        edge.answers("the last of sixteen", Scenes.FULL, c -> c.style(15, 9999, 3), 1);
        Scene writes = Scenes.strangers(2).then(c -> c.fear(0, 1, 9)).then(SherdCity::vote);
        edge.answers("HAND 0 at first", writes, c -> c.sherdOf(0, 6), 0);
        edge.answers("no fathers at first", writes, c -> c.sherdOf(0, 1), 0);
        edge.answers("no wards at first", writes, c -> c.sherdOf(0, 2), NONE);
    }

    private static void promise8() {
        edge.refused("BAD: there is no such MAN, without any", Scenes.NEW, c -> c.fear(0, 1, 1), BAD);
        edge.takes("BAD: there is no such MAN", Scenes.BUSY, 0, 3, BAD, (c, v) -> c.fear(v > 3 ? v + 1 : v, 4, 1));
        edge.takes("BAD: there is no such MAN (the other)", Scenes.BUSY, 1, 4, BAD, (c, v) -> c.fear(0, v, 1));
        for (int i = 0; i < 5; i++) {
            int man = i;
            edge.refused("BAD: they are the same", Scenes.BUSY, c -> c.fear(man, man, 1), BAD);
        }
        edge.takes("v isn't 0 to 9", Scenes.BUSY, 0, 9, BAD, (c, v) -> c.fear(0, 1, v));
        SherdCity c = Scenes.men(16).city();
        edge.is("FEAR is 0 at first", c.fear(15, 14, 9), 0);
        edge.is("what it was", c.fear(15, 14, 0), 9);
        edge.is("what it was then", c.fear(15, 14, 4), 0);
        edge.is("not of the other one's of him", c.fear(14, 15, 1), 0);
    }

    private static void promise9() {
        edge.refused("BAD: there is no such MAN, without any", Scenes.NEW, c -> c.word(0, 1, 0), BAD);
        edge.takes("BAD: there is no such MAN (about)", Scenes.BUSY, 0, 4, BAD, (c, v) -> c.word(v, 1, 0));
        edge.takes("BAD: there is no such MAN (to)", Scenes.BUSY, 0, 4, BAD, (c, v) -> c.word(0, 1, v));
        edge.takes("weight isn't -5 to 5", Scenes.BUSY, -5, 5, BAD, (c, v) -> c.word(0, v, 1));
        SherdCity c = Scenes.men(1).city();
        for (int i = 0; i < 8; i++) {
            edge.is("WORDS, 8 at most, numbered as they come (about a MAN to himself, too)", c.word(0, 0, 0), i);
        }
        edge.is("FULL: the ninth", c.word(0, 0, 0), FULL);
        edge.refused("FULL", Scenes.FULL, x -> x.word(0, 1, 1), FULL);
        edge.refusesOutside("BAD (about) is named ahead of FULL", Scenes.FULL, 0, 15, BAD, (x, v) -> x.word(v, 1, 1));
        edge.refusesOutside("BAD (to) is named ahead of FULL", Scenes.FULL, 0, 15, BAD, (x, v) -> x.word(1, 1, v));
        edge.refusesOutside("BAD (weight) is named ahead of FULL", Scenes.FULL, -5, 5, BAD, (x, v) -> x.word(1, v, 1));
    }

    private static void wordsPass() {
        Scene day0 = Scenes.men(16).then(c -> c.word(0, 1, 15));
        edge.answers("he to whom it is told HEARS it TODAY, on DAY 0", day0, c -> c.heard(15, 0), 0);
        edge.answers("he whom it is about does not", day0, c -> c.heard(0, 0), NONE);
        Scene last = Scenes.onDay(Scenes.men(2), 9999).then(c -> c.word(0, 1, 1));
        edge.answers("and on DAY 9999", last, c -> c.heard(1, 0), 9999);
        for (int i = 0; i < 16; i++) {
            int man = i;
            edge.answers("the fifteen others HEAR it a DAY later", day0.then(c -> c.days(3)), c -> c.heard(man, 0), man < 15 ? 1 : 0);
        }
        everyWardAndClub();
        Scene comesLate = Scenes.men(2).then(c -> c.word(0, 1, 0)).then(c -> c.days(9)).then(c -> c.man(0, -1, 1, 1));
        edge.answers("a MAN who comes late has not HEARD it", comesLate, c -> c.heard(2, 0), NONE);
        edge.answers("till a DAY goes by", comesLate.then(c -> c.days(1)), c -> c.heard(2, 0), 10);
    }

    /** So many DAYS at once are as many as one behind another. */
    private static void daysAtOnce() {
        Scene chain = Scenes.NEW.then(c -> {
            for (int ward = 0; ward < 6; ward++) {
                c.ward(0, 0);
                c.man(ward, ward - 1, 1, 1);
                c.man(ward, ward < 5 ? ward : -1, 1, 1);
            }
        });
        for (int first = 0; first < 3; first++) {
            int day = first;
            Scene told = Scenes.onDay(chain, first).then(c -> c.word(0, 1, 0));
            for (int n = 1; n < 24; n++) {
                int days = n;
                SherdCity once = told.then(c -> c.days(days)).city();
                SherdCity each = told.then(c -> {
                    for (int i = 0; i < days; i++) {
                        c.days(1);
                    }
                }).city();
                for (int man = 0; man < 12; man++) {
                    edge.is(n + " DAYS at once from " + day + " on, MAN " + man, once.heard(man, 0), each.heard(man, 0));
                }
            }
            // The next WARD's first is of the CLUB of the last one here, and clubs talk as days 0, 3, 6 .. go by.
            int[] hears = new int[12];
            hears[0] = day;
            for (int man = 1; man < 12; man++) {
                int goesBy = man % 2 == 1 ? hears[man - 1] : hears[man - 1] + (3 - hears[man - 1] % 3) % 3;
                hears[man] = goesBy + 1;
            }
            for (int man = 0; man < 12; man++) {
                int m = man;
                edge.answers("along WARDS and CLUBS from DAY " + day + " on, MAN " + man, told.then(c -> c.days(40)),
                    c -> c.heard(m, 0), hears[man]);
            }
        }
    }

    /** Who is SENT, or has a HARVEST, or too long a way, talks and HEARS as all others do. */
    private static void whereverTheyAre() {
        Scene two = Scenes.strangers(2).then(c -> c.man(0, 3, 1, 1)).then(c -> c.ward(0, 0)).then(c -> c.man(1, 3, 1, 1));
        Scene[] away = {
            two.then(c -> Due.sherd(c, "aaa", 0)).then(SherdCity::send), two.then(c -> c.harvest(0, 0, 9999)),
            two.then(c -> c.harvest(1, 0, 9999)), Scenes.NEW.then(c -> c.rule(0, 0)).then(c -> c.ward(0, 600)).then(c -> {
                Scenes.man(c, 0, -1, "aaa", "pa");
                Scenes.man(c, 0, -1, "bbb", "pa");
                c.man(0, 3, 1, 1);
                c.ward(0, 600);
                c.man(1, 3, 1, 1);
            }),
        };
        for (int i = 0; i < away.length; i++) {
            for (int to = 0; to < 2; to++) {
                int man = to;
                Scene told = away[i].then(c -> c.word(2, 1, man)).then(c -> c.days(4));
                edge.answers("he to whom it is told, " + i + ", " + to, told, c -> c.heard(man, 0), 0);
                edge.answers("to all MEN of their WARD, " + i + ", " + to, told, c -> c.heard(1 - man, 0), 1);
                edge.answers("to him whom it is about, " + i + ", " + to, told, c -> c.heard(2, 0), 1);
                edge.answers("and from him to all of his CLUB, " + i + ", " + to, told, c -> c.heard(3, 0), 4);
            }
            edge.answers("to all of their CLUB, " + i, away[i].then(c -> c.word(0, 1, 3)).then(c -> c.days(1)), c -> c.heard(2, 0), 1);
        }
    }

    /** A MAN of each WARD and one of each CLUB, who have none of the two in common. */
    private static void everyWardAndClub() {
        Scene apart = Scenes.NEW.then(c -> {
            for (int i = 0; i < 8; i++) {
                c.ward(0, 0);
                c.man(i, i < 6 ? i : -1, 1, 1);
            }
        });
        for (int i = 0; i < 8; i++) {
            int from = i;
            Scene alone = apart.then(c -> c.word(0, 1, from)).then(c -> c.days(7));
            Scene ward = apart.then(c -> c.man(from, -1, 1, 1)).then(c -> c.days(1)).then(c -> c.word(0, 1, 8)).then(c -> c.days(1));
            Scene club = apart.then(c -> c.man((from + 1) % 8, from < 6 ? from : -1, 1, 1)).then(c -> c.word(0, 1, from))
                .then(c -> c.days(1));
            for (int j = 0; j < 8; j++) {
                int to = j;
                edge.answers("nobody of another WARD and CLUB, from " + from + " to " + to, alone, c -> c.heard(to, 0), from == to ? 0 : NONE);
                edge.answers("those of his WARD alone, from " + from + " to " + to, ward, c -> c.heard(to, 0), from == to ? 2 : NONE);
                edge.answers("those of his CLUB alone, from " + from + " to " + to, club, c -> c.heard(to, 0), from == to ? 0 : NONE);
            }
            edge.answers("the other of his CLUB", club, c -> c.heard(8, 0), from < 6 ? 1 : NONE);
        }
    }

    private static void promise10() {
        edge.refused("BAD: there is no such MAN, without any", Scenes.NEW, c -> c.heard(0, 0), BAD);
        edge.refused("BAD: there is no such WORD, without any", Scenes.men(1), c -> c.heard(0, 0), BAD);
        edge.takes("BAD: there is no such MAN", Scenes.BUSY, 0, 4, BAD, (c, v) -> c.heard(v, 1));
        edge.takes("BAD: there is no such WORD", Scenes.BUSY, 0, 1, BAD, (c, v) -> c.heard(4, v));
        edge.takes("BAD: there is no such WORD of eight", Scenes.FULL, 0, 7, BAD, (c, v) -> c.heard(15, v));
        edge.refused("NONE", Scenes.BUSY, c -> c.heard(4, 1), NONE);
        edge.refused("BAD is named ahead of NONE", Scenes.BUSY, c -> c.heard(4, 2), BAD);
    }

    private static void promise11() {
        edge.refused("BAD: there is no such MAN, without any", Scenes.NEW, c -> c.dread(0, 1, 0), BAD);
        edge.takes("BAD: there is no such MAN", Scenes.BUSY, 0, 3, BAD, (c, v) -> c.dread(v > 3 ? v + 1 : v, 4, 0));
        edge.takes("BAD: there is no such MAN (the other)", Scenes.BUSY, 1, 4, BAD, (c, v) -> c.dread(0, v, 0));
        edge.refused("BAD: they are the same", Scenes.BUSY, c -> c.dread(0, 0, 0), BAD);
        edge.refused("BAD: they are the same (the last)", Scenes.BUSY, c -> c.dread(4, 4, 0), BAD);
        edge.takes("no such DAY", Scenes.BUSY, 0, 9999, BAD, (c, v) -> c.dread(0, 1, v));
    }

    private static void dreadAtItsEnds() {
        Scene afraid = Scenes.men(3).then(c -> c.fear(0, 1, 9)).then(c -> c.days(4));
        Scene heavy = afraid.then(c -> words(c, 5, 2));
        edge.answers("19 is below 20", heavy, c -> c.dread(0, 1, 4), 19);
        edge.answers("20 is taken", heavy.then(c -> c.word(1, 1, 0)), c -> c.dread(0, 1, 4), 20);
        edge.answers("20 at most", heavy.then(c -> c.word(1, 2, 0)), c -> c.dread(0, 1, 4), 20);
        edge.answers("20 at most of all eight", heavy.then(c -> words(c, 5, 6)), c -> c.dread(0, 1, 4), 20);
        edge.answers("HEARD on k", heavy, c -> c.dread(0, 1, 4), 19);
        edge.answers("or ahead", heavy, c -> c.dread(0, 1, 9999), 19);
        edge.answers("not behind it", heavy, c -> c.dread(0, 1, 3), 9);
        Scene light = afraid.then(c -> words(c, -5, 1));
        edge.answers("4", light, c -> c.dread(0, 1, 4), 4);
        edge.answers("0", light.then(c -> c.word(1, -4, 0)), c -> c.dread(0, 1, 4), 0);
        edge.answers("0 at least", light.then(c -> c.word(1, -5, 0)), c -> c.dread(0, 1, 4), 0);
        edge.answers("0 at least of all eight", light.then(c -> words(c, -5, 7)), c -> c.dread(0, 1, 4), 0);
        edge.answers("not what others HEARD", heavy, c -> c.dread(2, 1, 4), 0);
        edge.answers("nor what is about others", heavy, c -> c.dread(0, 2, 4), 0);
    }

    private static void words(SherdCity c, int weight, int howMany) {
        for (int i = 0; i < howMany; i++) {
            c.word(1, weight, 0);
        }
    }

    private static void promise12() {
        edge.takes("another what", Scenes.BUSY, 0, 3, BAD, (c, v) -> c.rule(v, 1));
        String[] rules = {"LIMIT (0 to 1200; 300 at first)", "BREAK (0 to 20; 3 at first)", "LEAST (0 to 20; 1 at first)",
            "SLACK (0 to 36; 4 at first)"};
        int[] most = {1200, 20, 20, 36};
        int[] first = {300, 3, 1, 4};
        for (int i = 0; i < 4; i++) {
            int what = i;
            edge.takes(rules[i], Scenes.BUSY, 0, most[i], BAD, (c, v) -> c.rule(what, v));
            edge.refused(rules[i], Scenes.NEW, c -> c.rule(what, most[what] + 1), BAD);
            SherdCity c = new SherdCity();
            edge.is(rules[i], c.rule(i, most[i]), first[i]);
            edge.is("what it was", c.rule(i, 0), most[i]);
            edge.is("what it was then", c.rule(i, 0), 0);
            for (int j = 0; j < 4; j++) {
                edge.is("the others are as they were", j == i ? 0 : c.rule(j, 0), j == i ? 0 : first[j]);
            }
        }
    }

    private static void promise13() {
        edge.refused("BAD: there is none such, without any", Scenes.NEW, c -> c.of(0, 0), BAD);
        edge.takes("BAD: there is none such", Scenes.BUSY, 0, 4, BAD, (c, v) -> c.of(v, 0));
        edge.takes("another what", Scenes.BUSY, 0, 7, BAD, (c, v) -> c.of(1, v));
        edge.refused("CLUB (NONE)", Scenes.BUSY, c -> c.of(3, 1), NONE);
        edge.answers("CLUB 0", Scenes.BUSY, c -> c.of(0, 1), 0);
        edge.refused("the DAY on which he was SENT last (NONE)", Scenes.BUSY, c -> c.of(0, 5), NONE);
        edge.refused("the last DAY of that (NONE)", Scenes.BUSY, c -> c.of(0, 6), NONE);
        edge.answers("1 if he was RECALLED then, else 0, also if he never was SENT", Scenes.BUSY, c -> c.of(0, 7), 0);
        edge.refused("BAD is named ahead of NONE", Scenes.BUSY, c -> c.of(5, 1), BAD);
    }

    private static void lastDayOfBeingSent() {
        Scene goes = Scenes.strangers(1).then(c -> Due.sherd(c, "aaa", 0));
        Scene none = goes.then(c -> Due.rule(c, "years 0;")).then(SherdCity::send);
        edge.answers("SENT on DAY 0 with years 0: the DAY", none, c -> c.of(0, 5), 0);
        edge.answers("as it is reckoned, also below 0", none, c -> c.of(0, 6), -1);
        Scene back = goes.then(SherdCity::send).then(c -> c.recall(0, 1, 1));
        edge.answers("RECALLED on DAY 0: below 0, too", back, c -> c.of(0, 6), -1);
        edge.answers("RECALLED then", back, c -> c.of(0, 7), 1);
        edge.answers("RECALLED then, however long ago", Scenes.onDay(back, 9999), c -> c.of(0, 7), 1);
        edge.answers("the DAY stays, however long ago", Scenes.onDay(back, 9999), c -> c.of(0, 5), 0);
        Scene late = Scenes.onDay(goes, 9999).then(c -> Due.rule(c, "years 50;")).then(SherdCity::send);
        edge.answers("SENT on DAY 9999", late, c -> c.of(0, 5), 9999);
        edge.answers("beyond 9999", late, c -> c.of(0, 6), 9999 + 18000 - 1);
        edge.answers("as he was the last time, whatever was before", back.then(SherdCity::send), c -> c.of(0, 7), 0);
    }
}
