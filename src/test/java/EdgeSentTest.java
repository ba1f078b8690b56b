/** Promises 31 to 36: what the document says of their edges. */
public final class EdgeSentTest {
    private static final int BAD = SherdCity.BAD, NONE = SherdCity.NONE, STATE = SherdCity.STATE;
    private static final Edge edge = new Edge();
    /** bbb, MAN 1 of two, GOES. */
    private static final Scene GOES = Scenes.strangers(2).then(c -> Due.sherd(c, "bbb", 0));
    private static final Scene AWAY = GOES.then(SherdCity::send);

    public static void main(String[] args) {
        promise31();
        sentForYears();
        promise32();
        recallEndsIt();
        promise33();
        daysSinceHeWasSent();
        promise34();
        besideAtItsEdge();
        asIfHeWereSent();
        promise35();
        keptAtItsEdge();
        keptOnThatDay();
        tribesNotWards();
        promise36();
        brokenAtItsEdge();
        edge.end();
    }

    private static void promise31() {
        edge.refused("NONE: nobody GOES, without MEN", Scenes.NEW, SherdCity::send, NONE);
        edge.refused("NONE: nobody GOES, without SHERDS", Scenes.men(16), SherdCity::send, NONE);
        edge.refused("NONE: of a MAY BE nobody is SURE", Scenes.strangers(1).then(c -> Due.sherd(c, "aa", 0)), SherdCity::send, NONE);
        edge.refused("NONE: enough isn't true", GOES.then(c -> Due.rule(c, "enough first > 1;")), SherdCity::send, NONE);
        edge.refused("NONE: as KNOWN TODAY", GOES.then(c -> c.thrown(0)), SherdCity::send, NONE);
        edge.answers("his number", GOES, SherdCity::send, 1);
        edge.answers("MAN 0", Scenes.strangers(1).then(c -> Due.sherd(c, "aaa", 0)), SherdCity::send, 0);
        edge.answers("MAN 15", Scenes.strangers(16).then(c -> Due.sherd(c, "ppp", 0)), SherdCity::send, 15);
        edge.refused("STATE: he is SENT TODAY already", AWAY, SherdCity::send, STATE);
        edge.refused("STATE: on the last DAY of that", Scenes.onDay(AWAY, 3599), SherdCity::send, STATE);
        edge.answers("not on the DAY behind", Scenes.onDay(AWAY, 3600), SherdCity::send, 1);
        edge.refused("NONE is named ahead of STATE", AWAY.then(c -> Due.rule(c, "enough 0;")), SherdCity::send, NONE);
        edge.answers("nor if he was RECALLED TODAY", AWAY.then(c -> c.recall(1, 1, 1)), SherdCity::send, 1);
        edge.answers("another is SENT beside him", AWAY.then(c -> Due.sherd(c, "aaa", 0)), SherdCity::send, 0);
        edge.answers("by numbers the first of both", AWAY.then(c -> Due.sherd(c, "aaa", 0)).then(SherdCity::send), c -> c.many(12), 2);
    }

    private static void sentForYears() {
        int[] years = {0, 1, 2, 50};
        for (int y : years) {
            Scene sent = Scenes.onDay(GOES, 3).then(c -> Due.rule(c, "years " + y + ";")).then(SherdCity::send);
            edge.answers("from TODAY on, years " + y, sent, c -> c.of(1, 5), 3);
            edge.answers("for years times 360 DAYS, TODAY the first: " + y, sent, c -> c.of(1, 6), 2 + 360 * y);
            edge.answers("with years 0 none: " + y, sent, c -> c.many(12), y == 0 ? 0 : 1);
            edge.answers("he COMES on the DAY ahead", sent, c -> c.comes(1, 2), 1);
            edge.answers("not TODAY, if it is for a year: " + y, sent, c -> c.comes(1, 3), y == 0 ? 1 : 0);
            edge.answers("on the DAY of that number", sent, c -> c.comes(1, 362), y == 0 ? 1 : 0);
            edge.answers("a year later", sent, c -> c.comes(1, 363), y < 2 ? 1 : 0);
            edge.answers("on the last DAY there is", sent, c -> c.comes(1, 9999), y == 50 ? 0 : 1);
            edge.answers("he isn't RECALLED", sent, c -> c.of(1, 7), 0);
        }
        Scene none = GOES.then(c -> Due.rule(c, "years 0;")).then(SherdCity::send);
        edge.answers("with years 0 he isn't SENT TODAY", none, SherdCity::send, 1);
        Scene twice = AWAY.then(c -> c.recall(1, 1, 1)).then(c -> Due.rule(c, "years 0;")).then(SherdCity::send);
        edge.answers("as he was the last time, with years 0 as well", twice, c -> c.of(1, 7), 0);
        edge.answers("another LAW doesn't alter it", AWAY.then(c -> Due.rule(c, "years 1;")), c -> c.of(1, 6), 3599);
    }

    private static void promise32() {
        edge.refused("BAD: there is no such MAN, without any", Scenes.NEW, c -> c.recall(0, 1, 1), BAD);
        edge.takes("there is no such MAN", Scenes.BUSY, 0, 4, BAD, (c, v) -> c.recall(v, 0, 1));
        edge.takes("there is no such MAN of sixteen", Scenes.FULL, 0, 15, BAD, (c, v) -> c.recall(v, 0, 1));
        edge.takes("yes isn't 0 to total", AWAY, 0, 9999, BAD, (c, v) -> c.recall(1, v, 9999));
        edge.takes("yes isn't 0 to total", AWAY, 0, 7, BAD, (c, v) -> c.recall(1, v, 7));
        edge.takes("yes isn't 0 to a total of 0", AWAY, 0, 0, BAD, (c, v) -> c.recall(1, v, 0));
        edge.takes("total not 0 to 9999", AWAY, 0, 9999, BAD, (c, v) -> c.recall(1, 0, v));
        edge.refused("total not 0 to 9999, yes as much", AWAY, c -> c.recall(1, 10000, 10000), BAD);
        edge.refused("total not 0 to 9999, yes as little", AWAY, c -> c.recall(1, -1, -1), BAD);
        edge.refused("STATE: he was never SENT", GOES, c -> c.recall(1, 1, 1), STATE);
        edge.refused("STATE: another is SENT", AWAY, c -> c.recall(0, 1, 1), STATE);
        edge.refused("STATE: on the DAY behind the last", Scenes.onDay(AWAY, 3600), c -> c.recall(1, 1, 1), STATE);
        edge.refused("STATE: he was RECALLED", AWAY.then(c -> c.recall(1, 1, 1)), c -> c.recall(1, 1, 1), STATE);
        Scene none = GOES.then(c -> Due.rule(c, "years 0;")).then(SherdCity::send);
        edge.refused("STATE: with years 0", none, c -> c.recall(1, 1, 1), STATE);
        edge.refused("BAD (MAN) is named ahead of STATE", GOES, c -> c.recall(2, 1, 1), BAD);
        edge.refused("BAD (yes) is named ahead of STATE", GOES, c -> c.recall(1, 2, 1), BAD);
        edge.refused("BAD (total) is named ahead of STATE", GOES, c -> c.recall(1, 1, 10000), BAD);
        edge.refused("0: recall isn't true, and he is SENT still", AWAY, c -> c.recall(1, 1, 2), 0);
        edge.refused("0: also by a LAW", AWAY.then(c -> Due.rule(c, "recall yes > 8;")), c -> c.recall(1, 8, 8), 0);
        edge.answers("1 by that LAW", AWAY.then(c -> Due.rule(c, "recall yes > 8;")), c -> c.recall(1, 9, 9), 1);
        edge.answers("yes and total may be 0", AWAY.then(c -> Due.rule(c, "recall yes = total;")), c -> c.recall(1, 0, 0), 1);
    }

    private static void recallEndsIt() {
        Scene first = AWAY.then(c -> c.recall(1, 1, 1));
        edge.answers("on the first DAY he is SENT on none", first, c -> c.comes(1, 0), 1);
        edge.answers("nor TODAY", first, c -> c.many(12), 0);
        edge.answers("the last DAY is as it is reckoned", first, c -> c.of(1, 6), -1);
        edge.answers("the DAY on which he was SENT stays", first, c -> c.of(1, 5), 0);
        Scene last = Scenes.onDay(AWAY, 3599).then(c -> c.recall(1, 1, 1));
        edge.answers("on the last DAY: it ends as TODAY begins", last, c -> c.of(1, 6), 3598);
        edge.answers("on the last DAY he COMES", last, c -> c.comes(1, 3599), 1);
        edge.answers("on the one ahead he didn't", last, c -> c.comes(1, 3598), 0);
        Scene late = Scenes.onDay(GOES, 9998).then(SherdCity::send).then(c -> c.days(1)).then(c -> c.recall(1, 1, 1));
        edge.answers("on the last of all DAYS", late, c -> c.of(1, 6), 9998);
        edge.answers("then he COMES", late, c -> c.comes(1, 9999), 1);
        edge.answers("1 if he was RECALLED", late, c -> c.of(1, 7), 1);
    }

    private static void promise33() {
        edge.refused("BAD: there is no such MAN, without any", Scenes.NEW, c -> c.may(0, 0), BAD);
        edge.takes("there is no such MAN", Scenes.BUSY, 0, 4, BAD, (c, v) -> c.may(v, 6));
        edge.takes("there is no such MAN of sixteen", Scenes.FULL, 0, 15, BAD, (c, v) -> c.may(v, 9999));
        edge.takes("there is no such DAY", AWAY, 0, 9999, BAD, (c, v) -> c.may(1, v));
        edge.takes("there is no such DAY", Scenes.BUSY, 0, 9999, BAD, (c, v) -> c.may(0, v));
        edge.refused("STATE: he was never SENT", GOES, c -> c.may(1, 0), STATE);
        edge.refused("BAD (MAN) is named ahead of STATE", GOES, c -> c.may(2, 0), BAD);
        edge.refused("BAD (DAY) is named ahead of STATE", GOES, c -> c.may(1, 10000), BAD);
        Scene year = Scenes.onDay(GOES, 7).then(c -> Due.rule(c, "years 1; may 1;")).then(SherdCity::send);
        edge.refused("STATE: on the DAY ahead of the first", year, c -> c.may(1, 6), STATE);
        edge.answers("on the first", year, c -> c.may(1, 7), 1);
        edge.answers("on the last", year, c -> c.may(1, 366), 1);
        edge.refused("STATE: on the DAY behind the last", year, c -> c.may(1, 367), STATE);
        Scene none = GOES.then(c -> Due.rule(c, "years 0; may 1;")).then(SherdCity::send);
        edge.refused("STATE: with years 0", none, c -> c.may(1, 0), STATE);
        Scene back = year.then(c -> c.days(5)).then(c -> c.recall(1, 1, 1));
        edge.answers("ahead of the RECALL", back, c -> c.may(1, 11), 1);
        edge.refused("STATE: as TODAY begins", back, c -> c.may(1, 12), STATE);
    }

    private static void daysSinceHeWasSent() {
        Scene sent = Scenes.onDay(GOES, 7).then(SherdCity::send);
        edge.answers("days: 0 on the first DAY", sent.then(c -> Due.rule(c, "may days = 0;")), c -> c.may(1, 7), 1);
        edge.answers("days: 1 on the next", sent.then(c -> Due.rule(c, "may days = 0;")), c -> c.may(1, 8), 0);
        edge.answers("days: 3599 on the last", sent.then(c -> Due.rule(c, "may days = 3599;")), c -> c.may(1, 3606), 1);
        edge.answers("years (of THE LAW), 10 without", sent.then(c -> Due.rule(c, "may years = 10;")), c -> c.may(1, 7), 1);
        edge.answers("years (of THE LAW)", sent.then(c -> Due.rule(c, "may years = 3; years 3;")), c -> c.may(1, 3606), 1);
        edge.answers("any number but 0 is true", sent.then(c -> Due.rule(c, "may days - 5;")), c -> c.may(1, 7), 1);
        edge.answers("0 is not", sent.then(c -> Due.rule(c, "may days - 5;")), c -> c.may(1, 12), 0);
        Scene late = Scenes.onDay(GOES, 9999).then(c -> Due.rule(c, "may days = 0;")).then(SherdCity::send);
        edge.answers("on the last of all DAYS", late, c -> c.may(1, 9999), 1);
    }

    private static void promise34() {
        edge.refused("NONE without MEN", Scenes.NEW, c -> c.beside(-1, 0), NONE);
        edge.refused("BAD: there is no such MAN, without any", Scenes.NEW, c -> c.beside(0, 0), BAD);
        edge.takes("there is no such MAN (-1: none away)", Scenes.BUSY, -1, 4, BAD, (c, v) -> c.beside(v, 0));
        edge.takes("there is no such MAN of sixteen", Scenes.FULL, -1, 15, BAD, (c, v) -> c.beside(v, 9999));
        edge.takes("there is no such DAY", Scenes.BUSY, 0, 9999, BAD, (c, v) -> c.beside(-1, v));
        edge.takes("there is no such DAY, with a MAN away", Scenes.BUSY, 0, 9999, BAD, (c, v) -> c.beside(2, v));
        edge.refused("NONE: nobody casts", Scenes.men(16), c -> c.beside(-1, 0), NONE);
        edge.refused("BAD is named ahead of NONE", Scenes.men(16), c -> c.beside(16, 0), BAD);
        edge.refused("BAD (DAY) is named ahead of NONE", Scenes.men(16), c -> c.beside(0, 10000), BAD);
        edge.changesNothing("who GOES BESIDE is not SENT", Scenes.BUSY, c -> c.beside(0, 5));
    }

    private static void besideAtItsEdge() {
        Scene each = Scenes.men(2).then(c -> c.fear(0, 1, 1)).then(c -> c.fear(1, 0, 1));
        edge.answers("of several the least", each, c -> c.beside(-1, 0), 0);
        edge.answers("MAN 0 away", each, c -> c.beside(0, 0), NONE);
        edge.answers("MAN 1 away", each, c -> c.beside(1, 0), NONE);
        Scene all = Scenes.men(16).then(c -> {
            for (int i = 0; i < 15; i++) {
                c.fear(i, 15, 1);
            }
        });
        edge.answers("MAN 15", all, c -> c.beside(-1, 0), 15);
        edge.answers("15 cast him", all.then(c -> Due.rule(c, "enough first > 14;")), c -> c.beside(-1, 0), 15);
        edge.answers("no more", all.then(c -> Due.rule(c, "enough first > 15;")), c -> c.beside(-1, 0), NONE);
        edge.answers("14 without MAN 3", all.then(c -> Due.rule(c, "enough first > 14;")), c -> c.beside(3, 0), NONE);
        edge.answers("TOTAL likewise", all.then(c -> Due.rule(c, "enough total = 15;")), c -> c.beside(-1, 0), 15);
        edge.answers("TRIBES likewise", all.then(c -> Due.rule(c, "enough tribes = 1;")), c -> c.beside(-1, 0), 15);
        edge.answers("SECOND likewise", all.then(c -> c.fear(15, 2, 9)).then(c -> Due.rule(c, "enough second = 1;")),
            c -> c.beside(-1, 0), 15);
        edge.answers("with LEAST 0 above 0 nobody GOES, though enough is true", Scenes.men(3).then(c -> Due.rule(c, "enough 1;")),
            c -> c.beside(-1, 0), NONE);
        edge.answers("good is not asked", all.then(c -> Due.rule(c, "good 0;")), c -> c.beside(-1, 0), 15);
        Scene home = all.then(c -> c.harvest(0, 5, 6));
        edge.answers("who doesn't COME casts nobody", home, c -> c.beside(-1, 5), NONE);
        edge.answers("on the DAY behind they do", home, c -> c.beside(-1, 7), 15);
    }

    private static void asIfHeWereSent() {
        Scene bound = Scenes.NEW.then(c -> {
            c.ward(0, 0);
            for (int i = 0; i < 4; i++) {
                Scenes.man(c, 0, i == 0 ? 0 : -1, Scenes.stranger(i), "pa");
            }
            c.bargain(0, 3, 0, 9999);
            c.fear(0, 1, 3);
            c.fear(0, 2, 2);
        });
        edge.answers("y breaks the BARGAIN", bound, c -> c.beside(-1, 0), 1);
        edge.answers("not if y is away", bound, c -> c.beside(1, 0), 3);
        edge.answers("the DREAD of x is nothing, if x is away", bound, c -> c.beside(3, 0), 1);
        edge.answers("with him away nobody casts", bound, c -> c.beside(0, 0), NONE);
        Scene sent = bound.then(c -> Due.sherd(c, "bbb", 0)).then(SherdCity::send);
        edge.answers("nobody else is less SENT: y and x are away", sent, c -> c.beside(3, 0), 2);
        edge.answers("y is SENT", sent, c -> c.beside(-1, 0), 3);
        edge.answers("also as m", sent, c -> c.beside(1, 0), 3);
        edge.answers("when he is back", sent, c -> c.beside(-1, 3600), 1);
    }

    private static void promise35() {
        edge.refused("NONE without MEN", Scenes.NEW, c -> c.keptBy(0), NONE);
        edge.takes("there is no such DAY", Scenes.NEW, 0, 9999, BAD, SherdCity::keptBy);
        edge.takes("there is no such DAY", Scenes.BUSY, 0, 9999, BAD, SherdCity::keptBy);
        edge.takes("there is no such DAY", Scenes.FULL, 0, 9999, BAD, SherdCity::keptBy);
        edge.refused("NONE: nobody casts", Scenes.men(16), c -> c.keptBy(0), NONE);
        edge.refused("BAD is named ahead of NONE", Scenes.men(16), c -> c.keptBy(10000), BAD);
    }

    private static void keptAtItsEdge() {
        Scene bound = Scenes.NEW.then(c -> {
            c.ward(0, 0);
            c.ward(1, 0);
            for (int i = 0; i < 4; i++) {
                Scenes.man(c, i == 0 ? 1 : 0, i < 2 ? 5 : -1, Scenes.stranger(i), "pa");
            }
            for (int i = 0; i < 3; i++) {
                c.word(2, 5, 0);
            }
            c.fear(0, 2, 9);
            c.bargain(5, 3, 2, 4);
        });
        edge.answers("the DREAD of 20 breaks it", bound.then(c -> c.fear(1, 2, 9)), c -> c.beside(-1, 2), 2);
        int[] want = {2, 2, 3, 3, 3, 2};
        for (int day = 0; day < want.length; day++) {
            int d = day;
            edge.answers("each casts that one, whatever he dreads, on DAY " + d, bound, c -> c.keptBy(d), want[d]);
        }
        Scene first = Scenes.men(1).then(c -> c.man(0, 1, 1, 1)).then(c -> c.bargain(1, 0, 0, 0)).then(c -> c.rule(1, 0));
        edge.answers("BOUND to MAN 0", first.then(c -> c.man(0, -1, 1, 1)), c -> c.keptBy(0), 0);
        edge.answers("whom he doesn't cast else", first.then(c -> c.man(0, -1, 1, 1)), c -> c.beside(-1, 0), NONE);
        Scene himself = bound.then(c -> c.bargain(5, 0, 2, 4));
        edge.answers("to another than himself", himself, c -> c.keptBy(3), 0);
        edge.answers("he casts by DREAD", himself.then(c -> Due.rule(c, "enough second = 1;")), c -> c.keptBy(3), 0);
        edge.answers("it isn't of two", himself.then(c -> Due.rule(c, "enough first = 2;")), c -> c.keptBy(3), NONE);
        edge.answers("of a CLUB: two cast him", bound.then(c -> Due.rule(c, "enough first = 2;")), c -> c.keptBy(3), 3);
        edge.answers("who COMES", bound.then(c -> Due.rule(c, "enough first = 2;")).then(c -> c.harvest(1, 3, 3)),
            c -> c.keptBy(3), NONE);
        Scene sent = bound.then(c -> Due.sherd(c, "ddd", 0)).then(SherdCity::send);
        edge.answers("not SENT", sent, c -> c.keptBy(3), 2);
        edge.answers("enough", bound.then(c -> Due.rule(c, "enough 0;")), c -> c.keptBy(3), NONE);
    }

    /** MAN 0 of a CLUB that is BOUND to 1, who is SENT on DAYS 5 to 364, and never COMES. */
    private static void keptOnThatDay() {
        Scene bound = Scenes.NEW.then(c -> {
            c.ward(0, 0);
            c.ward(0, 600);
            Scenes.man(c, 0, 2, "aaa", "pa");
            Scenes.man(c, 1, -1, "bbb", "pa");
            Scenes.man(c, 1, -1, "ccc", "pa");
            c.fear(0, 2, 9);
            c.bargain(2, 1, 0, 400);
            Due.sherd(c, "bbb", 0);
        });
        edge.answers("whom it is BOUND to need not COME", bound, c -> c.keptBy(0), 1);
        edge.answers("BESIDE he casts whom he dreads", bound, c -> c.beside(-1, 0), 2);
        Scene sent = Scenes.onDay(bound, 5).then(c -> Due.rule(c, "years 1;")).then(SherdCity::send);
        for (int more : new int[] {0, 400}) {
            Scene scene = Scenes.onDay(sent, more);
            int[] days = {0, 4, 5, 364, 365, 400, 401};
            int[] want = {1, 1, 2, 2, 1, 1, 2};
            for (int i = 0; i < days.length; i++) {
                int day = days[i];
                edge.answers("not SENT on " + day + ", TODAY " + (5 + more), scene, c -> c.keptBy(day), want[i]);
            }
        }
    }

    /** TRIBES are of those who cast, not their WARDS. */
    private static void tribesNotWards() {
        int[][] tribes = {{3, 3, 3}, {3, 3, 1}, {0, 4, 2}, {1, 0, 0}, {4, 4, 4}};
        int[] many = {1, 2, 3, 2, 1};
        for (int i = 0; i < tribes.length; i++) {
            int[] of = tribes[i];
            Scene scene = Scenes.NEW.then(c -> {
                for (int ward = 0; ward < 3; ward++) {
                    c.ward(of[ward], 0);
                    Scenes.man(c, ward, ward, Scenes.stranger(ward), "pa");
                }
                c.man(0, -1, Due.name("zzz"), 1);
                for (int man = 0; man < 3; man++) {
                    c.fear(man, 3, 1);
                    c.bargain(man, 3, 7, 7);
                }
            });
            Scene calm = scene.then(c -> {
                for (int man = 0; man < 3; man++) {
                    c.fear(man, 3, 0);
                }
            });
            for (int n = 0; n < 5; n++) {
                boolean right = n == many[i];
                int want = right ? 3 : NONE;
                String text = "enough tribes = " + n + " and total = 3;";
                edge.answers("BESIDE: " + text, scene.then(c -> Due.rule(c, text)), c -> c.beside(-1, 0), want);
                edge.answers("KEPT: " + text, calm.then(c -> Due.rule(c, text)), c -> c.keptBy(7), want);
                edge.answers("TURN: " + text, calm.then(c -> Due.rule(c, text)), c -> c.turn(3, 0), right ? 7 : NONE);
                edge.answers("of a VOTE: " + text, scene.then(SherdCity::vote).then(c -> Due.rule(c, text)), c -> c.count(0, 5), want);
            }
            edge.answers("TRIBES of a VOTE", scene.then(SherdCity::vote), c -> c.count(0, 4), many[i]);
        }
    }

    private static void promise36() {
        edge.takes("there is no such CLUB", Scenes.BUSY, 0, 5, BAD, (c, v) -> c.broken(v, 0));
        edge.takes("there is no such CLUB", Scenes.NEW, 0, 5, BAD, (c, v) -> c.broken(v, 0));
        edge.takes("k isn't 0 to TODAY", Scenes.NEW, 0, 0, BAD, (c, v) -> c.broken(0, v));
        edge.takes("k isn't 0 to TODAY", Scenes.BUSY, 0, 6, BAD, (c, v) -> c.broken(1, v));
        edge.takes("k isn't 0 to TODAY", Scenes.FULL, 0, 9999, BAD, (c, v) -> c.broken(1, v));
        edge.refused("STATE: it isn't BOUND", Scenes.NEW, c -> c.broken(0, 0), STATE);
        edge.refused("BAD (CLUB) is named ahead of STATE", Scenes.NEW, c -> c.broken(6, 0), BAD);
        edge.refused("BAD (k) is named ahead of STATE", Scenes.NEW, c -> c.broken(0, 1), BAD);
        Scene bound = Scenes.onDay(Scenes.men(1).then(c -> c.bargain(3, 0, 2, 4)), 9);
        int[] want = {STATE, STATE, 0, 0, 0, STATE};
        for (int day = 0; day < want.length; day++) {
            int d = day;
            edge.answers("BOUND on DAY " + d, bound, c -> c.broken(3, d), want[d]);
        }
        edge.refused("STATE on the DAY behind", bound, c -> c.broken(3, 5), STATE);
        edge.changesNothing("it only tells", bound, c -> c.broken(3, 3));
    }

    private static void brokenAtItsEdge() {
        Scene club = Scenes.NEW.then(c -> {
            c.ward(0, 0);
            c.ward(0, 0);
            Scenes.man(c, 0, 2, "aaa", "pa");
            Scenes.man(c, 0, 2, "bbb", "pa");
            Scenes.man(c, 1, 2, "ccc", "pa");
            Scenes.man(c, 0, 1, "ddd", "pa");
            c.bargain(2, 0, 0, 9999);
        });
        edge.answers("0 are fewer than 2", club, c -> c.broken(2, 0), 2);
        edge.answers("1 is fewer than 2", sherds(club, "aaa"), c -> c.broken(2, 0), 2);
        edge.answers("2 are not fewer, and SURE", sherds(club, "aaa", "aaa"), c -> c.broken(2, 0), 0);
        edge.answers("1 is SURE, 1 MAY BE", sherds(club, "aaa", "aa"), c -> c.broken(2, 0), 1);
        edge.answers("2 MAY BE", sherds(club, "aa", "aa"), c -> c.broken(2, 0), 1);
        edge.answers("others don't count", sherds(club, "aaa", "bbb", "zzz"), c -> c.broken(2, 0), 2);
        edge.answers("more than enough", sherds(club, "aaa", "aaa", "aaa", "aa"), c -> c.broken(2, 0), 0);
        edge.answers("GOOD ones", sherds(club, "aaa", "aaa").then(c -> Due.rule(c, "good 0;")), c -> c.broken(2, 0), 2);
        edge.answers("as KNOWN on it: THROWN on it", sherds(club, "aaa", "aaa").then(c -> c.thrown(0)), c -> c.broken(2, 0), 2);
        Scene later = sherds(club.then(c -> c.days(3)), "aaa", "aaa").then(c -> c.days(3)).then(c -> c.thrown(1));
        int[] want = {2, 2, 2, 0, 0, 0, 2};
        for (int day = 0; day < want.length; day++) {
            int d = day;
            edge.answers("as KNOWN on DAY " + d, later, c -> c.broken(2, d), want[d]);
        }
        Scene home = sherds(club, "aaa").then(c -> c.harvest(1, 0, 0));
        edge.answers("MEN of it who COME: one stays at home", home, c -> c.broken(2, 0), 0);
        edge.answers("by what is told now", sherds(club, "aaa").then(c -> c.days(9)).then(c -> c.harvest(1, 0, 0)),
            c -> c.broken(2, 0), 0);
        edge.answers("the one it is BOUND to doesn't count", club.then(c -> c.harvest(1, 0, 0)).then(c -> c.bargain(2, 1, 0, 0)),
            c -> c.broken(2, 0), 2);
        edge.answers("nobody COMES: 0 are not fewer than 0", club.then(c -> c.rule(0, 0)).then(c -> c.harvest(0, 0, 0))
            .then(c -> c.harvest(1, 0, 0)), c -> c.broken(2, 0), 0);
        Scene other = club.then(c -> c.bargain(2, 3, 0, 9999));
        edge.answers("BOUND to one of another CLUB: 3 COME", sherds(other, "ddd", "ddd"), c -> c.broken(2, 0), 2);
        edge.answers("3 are enough", sherds(other, "ddd", "ddd", "ddd"), c -> c.broken(2, 0), 0);
    }

    private static Scene sherds(Scene scene, String... names) {
        return scene.then(c -> {
            for (String name : names) {
                Due.sherd(c, name, 0);
            }
        });
    }
}
