/** Promises 31 to 42: sent, recalls, beside. */
public final class SentTest {
    private static final Due due = new Due();

    public static void main(String[] args) {
        send();
        recall();
        may();
        beside();
        besideByEnough();
        keptBy();
        broken();
        turn();
        turnByEnough();
        rows();
        judge();
        best();
        due.end();
    }

    /** Men a, bb, ccc, dddd of clubs 0, 1, 2 and none, in wards of tribes 0, 1, 2, 3. */
    private static SherdCity four() {
        SherdCity c = new SherdCity();
        for (int i = 0; i < 4; i++) {
            c.ward(i, 10 * i);
        }
        c.man(0, 0, Due.name("a"), 1);
        c.man(1, 1, Due.name("bb"), 1);
        c.man(2, 2, Due.name("ccc"), 1);
        c.man(3, -1, Due.name("dddd"), 1);
        return c;
    }

    private static void send() {
        SherdCity c = four();
        due.is("nobody goes", c.send(), -3);
        Due.sherd(c, "ccc", 0);
        c.days(5);
        due.is("sent", c.send(), 2);
        due.is("from", c.of(2, 5), 5);
        due.is("to", c.of(2, 6), 5 + 3600 - 1);
        due.is("already", c.send(), -4);
        Due.rule(c, "enough first > 1; years 1;");
        due.is("not enough", c.send(), -3);
        due.is("many 12", c.many(12), 1);
        Due.sherd(c, "dddd", 0);
        Due.sherd(c, "dddd", 0);
        due.is("another", c.send(), 3);
        due.is("to, by that law", c.of(3, 6), 5 + 360 - 1);
        due.is("many 12", c.many(12), 2);
        c.days(360);
        due.is("he is back", c.many(12), 1);
        due.is("sent anew", c.send(), 3);
        due.is("as he was the last time", c.of(3, 5), 365);
        due.is("not before that", c.comes(3, 100), 1);
        Due.rule(c, "years 0;");
        c.days(360);
        due.is("for no years", c.send(), 3);
        due.is("for no years again: he isn't sent today", c.send(), 3);
        due.is("comes", c.comes(3, 725), 1);
        due.is("nor the time before", c.comes(3, 400), 1);
    }

    private static void recall() {
        SherdCity c = four();
        due.is("isn't sent", c.recall(0, 1, 1), -4);
        Due.sherd(c, "a", 0);
        c.send();
        due.is("no man", c.recall(4, 1, 1), -1);
        due.is("yes above total", c.recall(0, 2, 1), -1);
        due.is("yes below 0", c.recall(0, -1, 1), -1);
        due.is("total 10000", c.recall(0, 1, 10000), -1);
        due.is("total -1", c.recall(0, -1, -1), -1);
        due.is("half isn't enough", c.recall(0, 4999, 9998), 0);
        due.is("he is sent still", c.many(12), 1);
        c.days(10);
        due.is("more than half", c.recall(0, 5000, 9999), 1);
        due.is("ends as today begins", c.of(0, 6), 9);
        due.is("recalled", c.of(0, 7), 1);
        due.is("comes", c.comes(0, 10), 1);
        due.is("came not", c.comes(0, 9), 0);
        due.is("not twice", c.recall(0, 1, 1), -4);
        Due.rule(c, "recall yes = 3 and total = 7;");
        due.is("sent anew", c.send(), 0);
        due.is("by law no", c.recall(0, 7, 7), 0);
        due.is("by law yes", c.recall(0, 3, 7), 1);
        Due.rule(c, "recall 1;");
        due.is("sent once more", c.send(), 0);
        due.is("with none of none", c.recall(0, 0, 0), 1);
    }

    private static void may() {
        SherdCity c = four();
        due.is("isn't sent", c.may(0, 0), -4);
        due.is("no man", c.may(4, 0), -1);
        due.is("no day", c.may(0, 10000), -1);
        due.is("day -1", c.may(0, -1), -1);
        Due.sherd(c, "a", 0);
        c.days(2);
        c.send();
        due.is("ahead", c.may(0, 1), -4);
        due.is("without: no", c.may(0, 2), 0);
        Due.rule(c, "may days > 2 and days < 5 and years = 7; years 7;");
        int[] want = {0, 0, 0, 1, 1, 0};
        for (int i = 0; i < want.length; i++) {
            due.is("may on day " + i, c.may(0, 2 + i), want[i]);
        }
        due.is("the last day", c.may(0, 3601), 0);
        due.is("behind", c.may(0, 3602), -4);
        Due.rule(c, "may days = 0;");
        due.is("day 0 of it", c.may(0, 2), 1);
    }

    private static void beside() {
        SherdCity c = four();
        due.is("nobody dreads", c.beside(-1, 0), -3);
        due.is("man 4", c.beside(4, 0), -1);
        due.is("man -2", c.beside(-2, 0), -1);
        due.is("no day", c.beside(-1, 10000), -1);
        c.fear(0, 1, 5);
        c.fear(0, 2, 4);
        c.fear(3, 1, 5);
        c.fear(1, 3, 1);
        due.is("two of three", c.beside(-1, 0), 1);
        due.is("with 1 away", c.beside(1, 0), 2);
        due.is("with 3 away", c.beside(3, 0), 1);
        due.is("with 0 away, of several the least", c.beside(0, 0), 1);
        c.bargain(0, 2, 3, 3);
        c.bargain(1, 2, 3, 3);
        c.rule(1, 20);
        due.is("by bargains", c.beside(-1, 3), 2);
        due.is("by bargains void", c.beside(2, 3), 1);
        due.is("on another day", c.beside(-1, 4), 1);
        c.word(0, 5, 3);
        c.word(0, 5, 2);
        due.is("by words heard", c.beside(1, 0), 0);
        Due.sherd(c, "bb", 0);
        due.is("sent", c.send(), 1);
        due.is("who is sent is away too", c.beside(-1, 0), 0);
        due.is("and another", c.beside(0, 0), -3);
    }

    private static void besideByEnough() {
        SherdCity c = four();
        c.fear(0, 1, 5);
        c.fear(2, 1, 5);
        c.fear(3, 1, 5);
        c.fear(1, 0, 5);
        String[] right = {"total=4", "first=3", "second=1", "tribes=3"};
        for (String e : right) {
            Due.rule(c, "good 0; enough " + e + ";");
            due.is(e, c.beside(-1, 0), 1);
            Due.rule(c, "enough not " + e + ";");
            due.is("not " + e, c.beside(-1, 0), -3);
        }
        Due.rule(c, "enough total=3 and second=0;");
        due.is("with 1 away there are none for him", c.beside(1, 0), -3);
        Due.rule(c, "enough tribes=2 and total=3;");
        due.is("with 0 away", c.beside(0, 0), -3);
        Due.rule(c, "enough tribes=2 and total=2;");
        due.is("with 0 away there are two", c.beside(0, 0), 1);
    }

    private static void keptBy() {
        SherdCity c = four();
        due.is("nobody", c.keptBy(0), -3);
        due.is("no day", c.keptBy(-1), -1);
        due.is("no day either", c.keptBy(10000), -1);
        c.fear(0, 3, 9);
        c.fear(1, 3, 9);
        c.fear(2, 3, 9);
        due.is("by dread", c.keptBy(0), 3);
        c.bargain(0, 1, 0, 5);
        c.bargain(2, 1, 0, 5);
        due.is("cast breaks it", c.beside(-1, 0), 3);
        due.is("kept, whatever they dread", c.keptBy(0), 1);
        due.is("not behind it", c.keptBy(6), 3);
        c.bargain(1, 1, 0, 5);
        due.is("who is himself bound to casts by dread", c.keptBy(0), 1);
        Due.rule(c, "enough total = 3 and first = 2 and second = 1;");
        due.is("counts", c.keptBy(0), 1);
        Due.sherd(c, "bb", 0);
        c.force(-1);
        c.send();
        due.is("not for one who is sent", c.keptBy(0), 3);
        SherdCity d = four();
        d.bargain(0, 2, 0, 5);
        d.harvest(0, 0, 0);
        due.is("he doesn't come", d.keptBy(0), -3);
        due.is("he comes", d.keptBy(1), 2);
    }

    private static void broken() {
        SherdCity c = four();
        c.man(0, 1, Due.name("eeeee"), 1);
        c.man(0, 1, Due.name("ffffff"), 1);
        due.is("club 6", c.broken(6, 0), -1);
        due.is("club -1", c.broken(-1, 0), -1);
        due.is("k 1", c.broken(1, 1), -1);
        due.is("k -1", c.broken(1, -1), -1);
        due.is("isn't bound", c.broken(1, 0), -4);
        c.bargain(1, 0, 0, 9);
        due.is("none of three", c.broken(1, 0), 2);
        Due.sherd(c, "a", 0);
        Due.sherd(c, "a", 0);
        due.is("two of three", c.broken(1, 0), 2);
        Due.sherd(c, "x", 0);
        due.is("three, one not sure", c.broken(1, 0), 1);
        Due.sherd(c, "a", 0);
        due.is("three sure", c.broken(1, 0), 0);
        c.days(1);
        c.thrown(0);
        due.is("as known then", c.broken(1, 0), 0);
        due.is("as known now", c.broken(1, 1), 1);
        c.harvest(1, 1, 1);
        due.is("one doesn't come", c.broken(1, 1), 0);
        c.bargain(1, 1, 0, 9);
        due.is("bound to one of it, who isn't asked", c.broken(1, 0), 2);
        Due.sherd(c, "bb", 0);
        Due.sherd(c, "bb", 0);
        due.is("two others come", c.broken(1, 1), 0);
        Due.rule(c, "good 0;");
        due.is("none is good", c.broken(1, 1), 2);
        c.bargain(5, 0, 0, 9);
        due.is("a club without men", c.broken(5, 0), 0);
    }

    private static void turn() {
        SherdCity c = four();
        due.is("man 4", c.turn(4, 0), -1);
        due.is("man -1", c.turn(-1, 0), -1);
        due.is("no day", c.turn(0, 10000), -1);
        due.is("one club is enough for 0, not his own", c.turn(0, 0), 2);
        due.is("for 1", c.turn(1, 0), 1);
        due.is("for 3", c.turn(3, 0), 1);
        c.fear(0, 1, 5);
        due.is("he goes as it is", c.turn(1, 0), 0);
        due.is("of several the least: 0 goes with one", c.turn(0, 0), 2);
        due.is("2 with club 0, who casts no other then", c.turn(2, 0), 1);
        c.fear(2, 1, 5);
        c.fear(3, 1, 5);
        due.is("0 against three with two clubs", c.turn(0, 0), 6);
        due.is("3 must take two from 1", c.turn(3, 0), 5);
        due.is("2 can have 0 and 1 alone, and 1 is the lesser", c.turn(2, 0), -3);
        Due.sherd(c, "a", 0);
        c.send();
        due.is("who is sent", c.turn(0, 0), -3);
        due.is("when he is back", c.turn(0, 3600), 6);
        c.harvest(2, 0, 0);
        c.harvest(1, 0, 0);
        due.is("nobody of a club comes", c.turn(3, 0), -3);
        due.is("on another day", c.turn(3, 1), 6);
    }

    private static void turnByEnough() {
        SherdCity c = four();
        Due.rule(c, "enough tribes > 1;");
        due.is("two tribes", c.turn(3, 0), 3);
        due.is("for 0", c.turn(0, 0), 6);
        Due.rule(c, "enough total = 3;");
        due.is("all three", c.turn(3, 0), 7);
        due.is("0 has but two", c.turn(0, 0), -3);
        Due.rule(c, "enough 0;");
        due.is("never", c.turn(3, 0), -3);
        Due.rule(c, "enough first = 1;");
        due.is("not too many", c.turn(3, 0), 1);
        // All six clubs, one man each, and one of none.
        SherdCity six = new SherdCity();
        six.ward(0, 0);
        for (int i = 0; i < 6; i++) {
            Due.man(six, i, "m");
        }
        Due.man(six, -1, "m");
        Due.rule(six, "enough total = 6;");
        due.is("all six", six.turn(6, 0), 63);
        Due.rule(six, "enough total = 3;");
        due.is("the least bits", six.turn(6, 0), 7);
    }

    private static void rows() {
        SherdCity c = four();
        due.is("none yet", c.row(0, 0), -9);
        due.is("none to alter", c.alterRow(0, 0, 5), -9);
        due.is("no day", c.prove(10000), -1);
        c.fear(0, 1, 5);
        Due.rule(c, "enough total < 2;");
        due.is("prove", c.prove(0), 4);
        due.is("many 7", c.many(7), 4);
        int[] clubs = {-1, 0, 1, 1};
        for (int i = 0; i < 4; i++) {
            due.is("man of row " + i, c.row(i, 0), i);
            due.is("clubs of row " + i, c.row(i, 1), clubs[i]);
        }
        due.is("row 4", c.row(4, 0), -9);
        due.is("row -1", c.row(-1, 0), -9);
        due.is("what 2", c.row(0, 2), -9);
        due.is("what -1", c.row(0, -1), -9);
        due.is("alter row 4", c.alterRow(4, 0, 1), -9);
        due.is("alter what 2", c.alterRow(0, 2, 1), -9);
        due.is("alter", c.alterRow(1, 0, Integer.MIN_VALUE), 1);
        due.is("altered", c.row(1, 0), Integer.MIN_VALUE);
        due.is("alter clubs", c.alterRow(1, 1, -7), 0);
        due.is("altered clubs", c.alterRow(1, 1, 3), -7);
        due.is("prove anew", c.prove(1), 4);
        due.is("as it was", c.row(1, 0), 1);
        due.is("without men", new SherdCity().prove(0), 0);
        SherdCity full = new SherdCity();
        full.ward(0, 0);
        for (int i = 0; i < 16; i++) {
            Due.man(full, i % 6, "m");
        }
        full.fear(15, 14, 9);
        due.is("sixteen rows", full.prove(0), 16);
        due.is("the last goes with one", full.row(15, 1), 1);
        due.is("the one ahead with none", full.row(14, 1), 0);
        due.is("all are right", full.judge(0), 0);
        due.is("row 16", full.row(16, 0), -9);
    }

    private static void judge() {
        SherdCity c = four();
        due.is("no rows", c.judge(0), 1);
        due.is("no rows, no men", new SherdCity().judge(0), 0);
        due.is("no day", c.judge(-1), -1);
        c.fear(0, 1, 5);
        c.harvest(0, 5, 5);
        c.prove(0);
        due.is("right", c.judge(0), 0);
        due.is("not of that day", c.judge(5), 2);
        c.alterRow(3, 1, 6);
        due.is("the last is wrong", c.judge(0), 4);
        c.alterRow(2, 0, 1);
        due.is("a man is wrong", c.judge(0), 3);
        c.prove(0);
        c.keep();
        Due.man(c, -1, "late");
        due.is("too few", c.judge(0), 5);
        c.prove(0);
        due.is("right with five", c.judge(0), 0);
        c.again();
        due.is("one too many", c.judge(0), 5);
        due.is("rows are not kept", c.many(7), 5);
    }

    private static void best() {
        SherdCity c = four();
        due.is("no day", c.best(-1), -1);
        due.is("none was read", c.best(0), -3);
        Due.read(c, 3, "");
        due.is("one was read", c.best(0), 3);
        Due.read(c, 1, "enough first > 1;");
        due.is("two clubs above one", c.best(0), 1);
        Due.read(c, 0, "enough first > 1;");
        due.is("of several the least", c.best(0), 0);
        Due.read(c, 2, "enough total = 2 and first = 2;");
        due.is("as good", c.best(0), 0);
        Due.read(c, 2, "enough 0;");
        due.is("no turn for anybody", c.best(0), 2);
        due.is("the law is as it was", c.many(11), 9);
        c.fear(0, 1, 5);
        c.fear(2, 1, 5);
        Due.read(c, 2, "enough first > 1;");
        Due.read(c, 0, "enough first > 2;");
        Due.read(c, 1, "");
        due.is("least for any man", c.best(0), 0);
        due.is("no day either", c.best(10000), -1);
        SherdCity d = four();
        d.fear(0, 1, 5);
        Due.read(d, 0, "");
        Due.read(d, 1, "enough total = 2;");
        due.is("no club at all is less than one", d.best(0), 1);
        SherdCity six = new SherdCity();
        six.ward(0, 0);
        for (int i = 0; i < 6; i++) {
            Due.man(six, i, "m");
        }
        Due.man(six, -1, "m");
        Due.read(six, 0, "enough total = 6;");
        Due.read(six, 1, "enough 0;");
        due.is("no turn is above six clubs", six.best(0), 1);
        SherdCity empty = new SherdCity();
        empty.read(2);
        empty.read(1);
        due.is("without men all are as good", empty.best(0), 1);
    }
}
