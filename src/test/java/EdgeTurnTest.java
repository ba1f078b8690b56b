/** Promises 37 to 42: what the document says of their edges. */
public final class EdgeTurnTest {
    private static final int BAD = SherdCity.BAD, NONE = SherdCity.NONE, NO_SUCH = -9;
    private static final Edge edge = new Edge();

    public static void main(String[] args) {
        promise37();
        smallestSets();
        everySet();
        leastBitsOfSeveral();
        whoTurns();
        castsNotBargains();
        sentOnThatDay();
        promise38();
        promise39();
        promise40();
        promise41();
        firstRowThatIsNotSo();
        promise42();
        bestOfSeveral();
        edge.end();
    }

    /** A man of no club, and men of these. */
    private static Scene clubs(int... clubs) {
        return Scenes.NEW.then(c -> {
            c.ward(0, 0);
            c.man(0, -1, 1, 1);
            for (int club : clubs) {
                c.man(0, club, 1, 1);
            }
        });
    }

    private static Scene ruled(Scene scene, String law) {
        return scene.then(c -> Due.rule(c, law));
    }

    private static void promise37() {
        edge.refused("BAD: there is no such MAN, without any", Scenes.NEW, c -> c.turn(0, 0), BAD);
        edge.takes("there is no such MAN", Scenes.BUSY, 0, 4, BAD, (c, v) -> c.turn(v, 0));
        edge.takes("there is no such MAN of sixteen", Scenes.FULL, 0, 15, BAD, (c, v) -> c.turn(v, 9999));
        edge.takes("there is no such DAY", Scenes.BUSY, 0, 9999, BAD, (c, v) -> c.turn(0, v));
        edge.refused("NONE: nobody else is there", clubs(), c -> c.turn(0, 0), NONE);
        edge.refused("NONE: those of none don't turn", clubs(-1, -1), c -> c.turn(0, 0), NONE);
        edge.refused("BAD (MAN) is named ahead of NONE", clubs(), c -> c.turn(1, 0), BAD);
        edge.refused("BAD (DAY) is named ahead of NONE", clubs(), c -> c.turn(0, -1), BAD);
        edge.changesNothing("it only tells", Scenes.BUSY, c -> c.turn(0, 5));
    }

    private static void smallestSets() {
        Scene dreaded = clubs(0, 5).then(c -> c.fear(1, 0, 1));
        edge.answers("no CLUB, if he GOES as it is", dreaded, c -> c.turn(0, 0), 0);
        for (int i = 0; i < 6; i++) {
            int club = i;
            edge.answers("CLUB " + club + " alone", clubs(club), c -> c.turn(0, 0), 1 << club);
        }
        edge.answers("of several the least bits", clubs(5, 3, 4), c -> c.turn(0, 0), 8);
        edge.answers("as small as can be: one though of more bits", ruled(clubs(0, 1, 5, 5), "enough first = 2;"), c -> c.turn(0, 0), 32);
        edge.answers("of two as small the least bits", ruled(clubs(0, 5, 3, 4), "enough first = 2;"), c -> c.turn(0, 0), 9);
        edge.answers("two though of more bits than three", ruled(clubs(0, 1, 2, 4, 4, 5), "enough first > 2;"), c -> c.turn(0, 0), 17);
        edge.answers("four of six", ruled(clubs(0, 1, 2, 3, 4, 5), "enough first = 4;"), c -> c.turn(0, 0), 15);
        edge.answers("five of six", ruled(clubs(0, 1, 2, 3, 4, 5), "enough first = 5;"), c -> c.turn(0, 0), 31);
        edge.answers("all six", ruled(clubs(0, 1, 2, 3, 4, 5), "enough first = 6;"), c -> c.turn(0, 0), 63);
        edge.answers("no more than there are", ruled(clubs(0, 1, 2, 3, 4, 5), "enough first = 7;"), c -> c.turn(0, 0), NONE);
        edge.answers("a CLUB of two is too many", ruled(clubs(0, 0, 5), "enough first = 1;"), c -> c.turn(0, 0), 32);
        Scene late = clubs(3).then(c -> c.bargain(3, 0, 5, 9999));
        edge.answers("on a DAY on which they are BOUND to him", late, c -> c.turn(0, 5), 0);
        edge.answers("on the DAY ahead", late, c -> c.turn(0, 4), 8);
    }

    /** Those of the CLUBS of a set COME, one each, and all of them are asked for. */
    private static void everySet() {
        for (int i = 0; i < 64; i++) {
            int set = i;
            Scene scene = Scenes.NEW.then(c -> {
                c.ward(0, 0);
                c.ward(0, 600);
                c.man(0, -1, 1, 1);
                for (int club = 0; club < 6; club++) {
                    c.man((set >> club & 1) != 0 ? 0 : 1, club, 1, 1);
                }
                c.man(1, -1, 1, 1);
            });
            Scene law = ruled(scene, "enough first = " + Integer.bitCount(set) + ";");
            edge.answers("the set " + set, law, c -> c.turn(0, 0), set == 0 ? NONE : set);
            edge.answers("the set " + set + " for one who doesn't COME", law, c -> c.turn(7, 0), set == 0 ? NONE : set);
        }
    }

    /** CLUBS of so many MEN, as many votes asked for as some of them have. */
    private static void leastBitsOfSeveral() {
        int[][] sizes = {{1, 2, 3, 1, 2, 3}, {3, 2, 1, 3, 2, 1}, {2, 2, 2, 3, 3, 3}, {1, 1, 2, 2, 4, 4}, {5, 4, 3, 1, 1, 1}, {1, 4, 2, 3, 1, 4}};
        for (int[] size : sizes) {
            StringBuilder all = new StringBuilder();
            for (int club = 0; club < 6; club++) {
                all.append(String.valueOf(club).repeat(size[club]));
            }
            for (int votes = 1; votes < 15; votes++) {
                Scene scene = ruled(clubs(all.chars().map(c -> c - '0').toArray()), "enough first = " + votes + ";");
                edge.answers(all + ", " + votes + " votes", scene, c -> c.turn(0, 0), leastSet(size, votes));
            }
        }
    }

    private static int leastSet(int[] size, int votes) {
        int best = NONE;
        for (int set = 1; set < 64; set++) {
            int sum = 0;
            for (int club = 0; club < 6; club++) {
                sum += (set >> club & 1) * size[club];
            }
            if (sum == votes && (best < 0 || Integer.bitCount(set) < Integer.bitCount(best))) {
                best = set;
            }
        }
        return best;
    }

    /** Who is BOUND but dreads another casts that other in a TURN, too: it is BESIDE, not KEPT. */
    private static void castsNotBargains() {
        Scene breaks = clubs(2, 3).then(c -> c.bargain(2, 2, 0, 9999)).then(c -> c.fear(1, 0, 9));
        edge.answers("TURN for the one who is dreaded", breaks, c -> c.turn(0, 0), 0);
        edge.answers("TURN for the one to whom the CLUB is BOUND", breaks, c -> c.turn(2, 0), 4);
        Scene proven = breaks.then(c -> c.prove(0));
        rows("ROWS of whom they cast", proven, 0, -1, 1);
        edge.answers("THE READER", proven, c -> c.judge(0), 0);
        Scene two = ruled(breaks.then(c -> c.man(0, 2, 1, 1)), "");
        edge.answers("THE BEST LAW", laws(two, "enough second = 0;", "enough second = 1;"), c -> c.best(0), 0);
        edge.answers("two kept, though one breaks: none GOES with SECOND 0", ruled(two, "enough second = 0;"), c -> c.turn(0, 0), 4);
    }

    private static void whoTurns() {
        Scene own = clubs(2, 2).then(c -> c.fear(1, 2, 9));
        edge.answers("he of his own CLUB casts as he did, the other turns", ruled(own, "enough first = 1;"), c -> c.turn(1, 0), 4);
        edge.answers("so there are two", ruled(own, "enough first = 1 and second = 1 and total = 2;"), c -> c.turn(1, 0), 4);
        edge.answers("(but y): a CLUB of his own alone can't", clubs(4).then(c -> c.fear(1, 0, 1)), c -> c.turn(1, 0), NONE);
        edge.answers("y isn't FIRST, if another has as much and is ahead", clubs(4).then(c -> c.fear(0, 1, 1)), c -> c.turn(1, 0), 0);
        Scene equal = clubs(1, 2).then(c -> c.fear(1, 0, 1)).then(c -> c.fear(0, 2, 1));
        edge.answers("MAN 2 takes the one that MAN 0 has", equal, c -> c.turn(2, 0), 2);
        Scene home = Scenes.NEW.then(c -> {
            c.ward(0, 0);
            c.ward(1, 0);
            c.man(0, -1, 1, 1);
            c.man(1, 3, 1, 1);
            c.man(0, 4, 1, 1);
            c.harvest(1, 5, 5);
        });
        edge.answers("each MAN who COMES", home, c -> c.turn(0, 4), 8);
        edge.answers("who doesn't turns not", home, c -> c.turn(0, 5), 16);
        Scene both = ruled(home.then(c -> c.man(0, 3, 1, 1)), "enough first = 2 and total = 2;");
        edge.answers("a CLUB of two who COME", both, c -> c.turn(0, 4), 8);
        edge.answers("a CLUB of two of whom one COMES", both, c -> c.turn(0, 5), 24);
        edge.answers("y need not COME", home, c -> c.turn(1, 5), 16);
        Scene sent = Scenes.NEW.then(c -> {
            c.ward(0, 0);
            for (int i = 0; i < 3; i++) {
                Scenes.man(c, 0, i, Scenes.stranger(i), "pa");
            }
            Due.sherd(c, "ccc", 0);
            c.send();
        });
        edge.refused("none, if y is SENT then", sent, c -> c.turn(2, 0), NONE);
        edge.refused("none on the last DAY of that", sent, c -> c.turn(2, 3599), NONE);
        edge.answers("on the DAY behind", sent, c -> c.turn(2, 3600), 1);
        edge.answers("who is SENT turns not", sent.then(c -> c.fear(1, 0, 1)), c -> c.turn(1, 0), NONE);
        edge.answers("TRIBES of those who turn", ruled(home, "enough tribes = 2;"), c -> c.turn(0, 0), 24);
        edge.answers("SECOND", ruled(clubs(0, 1).then(c -> c.fear(2, 1, 1)), "enough second = 0;"), c -> c.turn(0, 0), 2);
    }

    /** MAN 2, alone of another TRIBE, is SENT on DAYS 5 to 364: on these there is no TURN for him. */
    private static void sentOnThatDay() {
        Scene sent = Scenes.NEW.then(c -> {
            c.ward(0, 0);
            c.ward(1, 0);
            for (int i = 0; i < 3; i++) {
                Scenes.man(c, i / 2, i, Scenes.stranger(i), "pa");
            }
            Due.sherd(c, "ccc", 0);
            c.days(5);
            Due.rule(c, "years 1;");
            c.send();
        });
        String byTwo = "enough first = 2 and tribes = 2;";
        String byOne = "enough first = 2 and tribes = 1;";
        for (int more : new int[] {0, 400}) {
            Scene scene = Scenes.onDay(sent, more);
            Scene others = laws(scene, byTwo, byOne);
            Scene him = laws(scene, byOne, "enough 0;");
            for (int d : new int[] {0, 4, 5, 6, 364, 365, 9999}) {
                int day = d;
                boolean there = d < 5 || d > 364;
                String at = " on " + d + ", TODAY " + (5 + more);
                edge.answers("TURN for him" + at, scene, c -> c.turn(2, day), there ? 1 : NONE);
                edge.answers("TURN for MAN 0" + at, scene, c -> c.turn(0, day), 2);
                Scene proven = scene.then(c -> c.prove(day));
                rows("ROWS" + at, proven, 1, 1, there ? 1 : -1);
                edge.answers("THE READER" + at, proven, c -> c.judge(day), 0);
                edge.answers("THE READER on DAY 4" + at, proven, c -> c.judge(4), there ? 0 : 3);
                edge.answers("THE READER on DAY 5" + at, proven, c -> c.judge(5), there ? 3 : 0);
                edge.answers("2 under both if he is there, else 7" + at, others, c -> c.best(day), 0);
                edge.answers("2 for him alone, if he is there, else 7" + at, him, c -> c.best(day), there ? 1 : 0);
            }
        }
    }

    private static void promise38() {
        edge.takes("there is no such DAY", Scenes.NEW, 0, 9999, BAD, SherdCity::prove);
        edge.takes("there is no such DAY", Scenes.BUSY, 0, 9999, BAD, SherdCity::prove);
        edge.takes("there is no such DAY", Scenes.FULL, 0, 9999, BAD, SherdCity::prove);
        edge.answers("how many: none without MEN", Scenes.NEW, c -> c.prove(0), 0);
        edge.answers("how many: 16", Scenes.FULL, c -> c.prove(0), 16);
        Scene proven = clubs(0, 5, 5).then(c -> c.fear(1, 2, 1)).then(c -> c.prove(0));
        rows("ROWS", proven, 1, 1, 0, 1);
        rows("ROWS without a set", ruled(proven, "enough 0;").then(c -> c.prove(0)), -1, -1, -1, -1);
        rows("ROWS are as they were told, whatever is told later", ruled(proven, "enough 0;"), 1, 1, 0, 1);
        Scene altered = proven.then(c -> c.alterRow(0, 0, 7)).then(c -> c.alterRow(3, 1, 7)).then(c -> c.prove(0));
        edge.holds("ROWS become those of a DAY, whatever they were", altered.isLike(proven));
        Scene bound = proven.then(c -> c.bargain(5, 0, 1, 1));
        rows("ROWS of another DAY, on which CLUB 5 casts MAN 0", bound.then(c -> c.prove(1)), 0, 1, 1, 2);
        rows("ROWS of DAY 0", bound.then(c -> c.prove(0)), 1, 1, 0, 1);
    }

    /** How many CLUBS the ROWS of so many MEN tell. */
    private static void rows(String sentence, Scene scene, int... clubs) {
        SherdCity c = scene.city();
        edge.is(sentence + ": how many", c.many(7), clubs.length);
        for (int i = 0; i < clubs.length; i++) {
            edge.is(sentence + ": the MAN of " + i, c.row(i, 0), i);
            edge.is(sentence + ": the CLUBS of " + i, c.row(i, 1), clubs[i]);
        }
    }

    private static void promise39() {
        edge.refused("-9: there is none such, without any", Scenes.NEW, c -> c.row(0, 0), NO_SUCH);
        edge.takes("there is none such", Scenes.BUSY, 0, 4, NO_SUCH, (c, v) -> c.row(v, 0));
        edge.takes("there is none such of sixteen", Scenes.FULL, 0, 15, NO_SUCH, (c, v) -> c.row(v, 1));
        edge.takes("another what", Scenes.BUSY, 0, 1, NO_SUCH, (c, v) -> c.row(0, v));
        edge.refused("MEN without ROWS", Scenes.men(2), c -> c.row(0, 0), NO_SUCH);
        Scene more = Scenes.men(2).then(c -> c.prove(0)).then(c -> c.man(0, 0, 1, 1));
        edge.refused("ROWS are as many as MEN were then", more, c -> c.row(2, 0), NO_SUCH);
        edge.answers("the last of them", more, c -> c.row(1, 0), 1);
    }

    private static void promise40() {
        edge.refused("-9: there is none such, without any", Scenes.NEW, c -> c.alterRow(0, 0, 1), NO_SUCH);
        edge.takes("there is none such", Scenes.BUSY, 0, 4, NO_SUCH, (c, v) -> c.alterRow(v, 0, 3));
        edge.takes("there is none such of sixteen", Scenes.FULL, 0, 15, NO_SUCH, (c, v) -> c.alterRow(v, 1, 3));
        edge.takes("another what", Scenes.BUSY, 0, 1, NO_SUCH, (c, v) -> c.alterRow(0, v, 3));
        for (int what = 0; what < 2; what++) {
            SherdCity c = Scenes.men(3).then(x -> x.prove(0)).city();
            int was = what == 0 ? 2 : -1;
            for (int v : new int[] {Integer.MIN_VALUE, Integer.MAX_VALUE, -9, 0, 7}) {
                edge.is("what it was", c.alterRow(2, what, v), was);
                edge.is("it becomes v", c.row(2, what), v);
                edge.is("the other of that ROW is as it was", c.row(2, 1 - what), what == 0 ? -1 : 2);
                edge.is("that of another ROW, too", c.row(1, what), what == 0 ? 1 : -1);
                was = v;
            }
        }
    }

    private static void promise41() {
        edge.takes("there is no such DAY", Scenes.NEW, 0, 9999, BAD, SherdCity::judge);
        edge.takes("there is no such DAY", Scenes.BUSY, 0, 9999, BAD, SherdCity::judge);
        edge.takes("there is no such DAY", Scenes.FULL, 0, 9999, BAD, SherdCity::judge);
        edge.answers("0: all of none are right", Scenes.NEW, c -> c.judge(0), 0);
        edge.answers("no ROWS are too few for one MAN", Scenes.men(1), c -> c.judge(0), 1);
        edge.answers("no ROWS are too few for sixteen", Scenes.men(16), c -> c.judge(0), 1);
        edge.answers("all sixteen are right", Scenes.men(16).then(c -> c.prove(0)), c -> c.judge(0), 0);
        edge.answers("and right on another DAY as well", Scenes.men(16).then(c -> c.prove(0)), c -> c.judge(9999), 0);
        edge.changesNothing("THE READER only tells", Scenes.BUSY, c -> c.judge(6));
        Scene fifteen = Scenes.men(15).then(c -> c.prove(0)).then(c -> c.man(0, -1, 1, 1));
        edge.answers("15 are right, but too few", fifteen, c -> c.judge(0), 16);
    }

    private static void firstRowThatIsNotSo() {
        Scene proven = clubs(0, 5, 5).then(c -> c.fear(1, 2, 1)).then(c -> c.prove(0));
        for (int i = 0; i < 4; i++) {
            int row = i;
            for (int j = 0; j < 2; j++) {
                int what = j;
                Scene altered = proven.then(c -> c.alterRow(row, what, 5));
                edge.answers("the ROW " + row + ", what " + what, altered, c -> c.judge(0), row + 1);
                edge.answers("the first of several", altered.then(c -> c.alterRow(3, 0, -3)), c -> c.judge(0), row + 1);
                int was = proven.city().row(row, what);
                edge.answers("right again", altered.then(c -> c.alterRow(row, what, was)), c -> c.judge(0), 0);
            }
        }
        Scene more = proven.then(c -> c.man(0, -1, 1, 1));
        edge.answers("right, but too few", more, c -> c.judge(0), 5);
        edge.answers("a ROW that is not so is told ahead of that", more.then(c -> c.alterRow(3, 1, 9)), c -> c.judge(0), 4);
        Scene none = ruled(proven, "enough 0;");
        edge.answers("by THE LAW as it is now", none, c -> c.judge(0), 1);
        edge.answers("-1: there is no such set", none.then(c -> c.prove(0)), c -> c.judge(0), 0);
        edge.answers("-2 is not so", none.then(c -> c.prove(0)).then(c -> c.alterRow(2, 1, -2)), c -> c.judge(0), 3);
    }

    private static void promise42() {
        edge.takes("there is no such DAY", Scenes.NEW, 0, 9999, BAD, SherdCity::best);
        edge.takes("there is no such DAY", Scenes.BUSY, 0, 9999, BAD, SherdCity::best);
        edge.takes("there is no such DAY", Scenes.FULL, 0, 9999, BAD, SherdCity::best);
        edge.refused("NONE: none was read", Scenes.NEW, c -> c.best(0), NONE);
        edge.refused("NONE: none was read, with MEN", Scenes.men(16), c -> c.best(0), NONE);
        edge.refused("NONE: one with a FAULT was not read", clubs(0).then(c -> Due.read(c, 0, "x")), c -> c.best(0), NONE);
        edge.refused("BAD is named ahead of NONE", Scenes.NEW, c -> c.best(10000), BAD);
        edge.changesNothing("THE LAW stays", Scenes.BUSY, c -> c.best(6));
        for (int i = 0; i < 4; i++) {
            int law = i;
            edge.answers("the only one that was read", clubs(0).then(c -> c.read(law)), c -> c.best(0), law);
        }
        edge.answers("of four alike the least", Scenes.FULL, c -> c.best(0), 0);
    }

    private static Scene laws(Scene scene, String... laws) {
        return scene.then(c -> {
            for (int i = 0; i < laws.length; i++) {
                if (laws[i] != null) {
                    Due.read(c, i, laws[i]);
                }
            }
        });
    }

    private static void bestOfSeveral() {
        Scene six = clubs(0, 1, 2, 3, 4, 5);
        edge.answers("the greatest", laws(six, "", "enough first = 2;", "enough first = 3;", "enough first = 1;"), c -> c.best(0), 2);
        edge.answers("7, if there is no TURN for anybody", laws(six, "enough first = 6;", "enough first = 7;"), c -> c.best(0), 1);
        edge.answers("of several the least LAW", laws(six, null, "enough first = 3;", "", "enough first > 2;"), c -> c.best(0), 1);
        edge.answers("of several without a TURN the least", laws(six, "", null, "enough 0;", "enough 0;"), c -> c.best(0), 2);
        Scene one = six.then(c -> c.fear(1, 2, 1)).then(c -> c.fear(3, 2, 1));
        edge.answers("the least number for any MAN: 0, as one GOES", laws(one, "enough first > 1;", "enough first > 2;"), c -> c.best(0), 1);
        edge.answers("0 for both", laws(one, "enough first > 1;", ""), c -> c.best(0), 0);
        edge.answers("without MEN each has 7", laws(Scenes.NEW, null, null, "", "enough 0;"), c -> c.best(0), 2);
        Scene day = one.then(c -> c.harvest(0, 3, 3));
        edge.answers("on a DAY on which nobody COMES", laws(day, "enough first > 1;", "enough first > 2;"), c -> c.best(3), 0);
        edge.answers("whatever THE LAW is", laws(one, "enough first > 1;", "enough first > 2;").then(c -> c.force(0)), c -> c.best(0), 1);
        edge.answers("good doesn't matter", laws(one, "good 0; enough first > 1;", "good 1; enough first > 1;"), c -> c.best(0), 0);
    }
}
