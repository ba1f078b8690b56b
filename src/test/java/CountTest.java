/** Promises 27 to 30: counts. */
public final class CountTest {
    private static final Due due = new Due();

    public static void main(String[] args) {
        withoutMen();
        count();
        asKnown();
        byLaw();
        certain();
        counted();
        tally();
        tallies();
        due.end();
    }

    private static void are(String about, SherdCity c, int k, int... want) {
        for (int what = 0; what < want.length; what++) {
            due.is(about + ": count " + what, c.count(k, what), want[what]);
        }
    }

    private static void withoutMen() {
        SherdCity c = new SherdCity();
        Due.sherd(c, "ab", 1);
        are("without men", c, 0, 0, -3, 0, 0, 0, -3, 0);
        Due.rule(c, "good 1; enough 1;");
        are("without men, all good", c, 0, 1, -3, 0, 0, 0, -3, 0);
        due.is("doubt of none could matter", c.tallies(2), 1);
        due.is("k -1", c.count(-1, 0), -1);
        due.is("k 1", c.count(1, 0), -1);
        due.is("what 7", c.count(0, 7), -1);
        due.is("what -1", c.count(0, -1), -1);
    }

    private static SherdCity three() {
        SherdCity c = new SherdCity();
        c.ward(0, 0);
        for (String name : new String[] {"abc", "abd", "xyz"}) {
            Due.man(c, 0, name);
        }
        return c;
    }

    private static void count() {
        SherdCity c = three();
        are("nothing cast", c, 0, 0, 0, 0, 0, 0, -3, 0);
        Due.sherd(c, "xyz", 4);
        are("one", c, 0, 1, 2, 1, 0, 1, 2, 1);
        Due.sherd(c, "abc", -1);
        are("of several the least, through no gate", c, 0, 2, 0, 1, 1, 0, 0, 0);
        Due.sherd(c, "xyz", 0);
        Due.sherd(c, "xyz", 4);
        are("three of four", c, 0, 4, 2, 3, 1, 2, 2, 1);
        Due.sherd(c, "xy", 1);
        are("may be isn't sure, and its gate doesn't count", c, 0, 5, 2, 3, 1, 2, 2, 1);
        Due.sherd(c, "zzzzz", 1);
        are("nobody's isn't good", c, 0, 5, 2, 3, 1, 2, 2, 1);
        SherdCity one = new SherdCity();
        one.ward(0, 0);
        Due.man(one, 0, "a");
        Due.sherd(one, "a", 3);
        are("one man, no second", one, 0, 1, 0, 1, 0, 1, 0, 1);
    }

    private static void asKnown() {
        SherdCity c = three();
        Due.sherd(c, "abc", 0);
        c.days(3);
        Due.sherd(c, "xyz", 0);
        Due.sherd(c, "xyz", 1);
        c.days(3);
        c.thrown(1);
        c.thrown(2);
        are("on 0", c, 0, 1, 0, 1, 0, 1, 0, 1);
        are("on 2", c, 2, 1, 0, 1, 0, 1, 0, 1);
        are("on 3", c, 3, 3, 2, 2, 1, 2, 2, 1);
        are("on 5", c, 5, 3, 2, 2, 1, 2, 2, 1);
        are("on 6", c, 6, 1, 0, 1, 0, 1, 0, 1);
        due.is("on 7", c.count(7, 0), -1);
    }

    private static void byLaw() {
        SherdCity c = three();
        Due.sherd(c, "xyz", 4);
        c.sherd(Due.name("xyz"), 0, -1, 3, 0, 10000);
        c.sherd(Due.name("abc"), 0, -1, 2, 0, 10000);
        are("by an empty text", c, 0, 3, 2, 2, 1, 2, 2, 1);
        Due.rule(c, "good name and not ready;");
        are("without ready ones", c, 0, 1, 2, 1, 0, 1, 2, 1);
        String[] enough = {"total=3", "first=2", "second=1", "tribes=2", "total+first+second+tribes=8"};
        for (String e : enough) {
            Due.rule(c, "enough " + e + ";");
            due.is(e, c.count(0, 5), 2);
            Due.rule(c, "enough not " + e + ";");
            due.is("not " + e, c.count(0, 5), -3);
            due.is("not certain: " + e, c.count(0, 6), 0);
        }
        Due.rule(c, "good 0; enough 1;");
        are("none goes with none cast", c, 0, 0, 0, 0, 0, 0, -3, 0);
    }

    private static void certain() {
        SherdCity c = three();
        Due.sherd(c, "abc", 0);
        Due.sherd(c, "abc", 0);
        Due.sherd(c, "abe", 0);
        due.is("goes", c.count(0, 5), 0);
        due.is("certain: 2 above 1", c.count(0, 6), 1);
        Due.sherd(c, "abe", 0);
        due.is("not certain: 2 not above 2", c.count(0, 6), 0);
        due.is("least", c.counted(0, 0, false), 2);
        due.is("his own most is above", c.counted(0, 0, true), 4);
        SherdCity full = new SherdCity();
        full.ward(0, 0);
        for (int i = 0; i < 16; i++) {
            Due.man(full, 0, i < 15 ? "zzz" : "abc");
        }
        Due.sherd(full, "abc", 0);
        are("the last of sixteen", full, 0, 1, 15, 1, 0, 1, 15, 1);
    }

    private static void counted() {
        SherdCity c = three();
        c.days(1);
        Due.sherd(c, "abc", 0);
        Due.sherd(c, "ab", 0);
        int[] least = {1, 0, 0};
        int[] most = {2, 1, 0};
        for (int m = 0; m < 3; m++) {
            due.is("least", c.counted(m, 1, false), least[m]);
            due.is("most", c.counted(m, 1, true), most[m]);
            due.is("least ahead", c.counted(m, 0, false), 0);
            due.is("most ahead", c.counted(m, 0, true), 0);
        }
        due.is("man 3", c.counted(3, 1, true), -1);
        due.is("man -1", c.counted(-1, 1, true), -1);
        due.is("k 2", c.counted(0, 2, true), -1);
        due.is("k -1", c.counted(0, -1, false), -1);
    }

    private static void tally() {
        SherdCity c = new SherdCity();
        due.is("counter 2", c.tally(2, 0, 1), -1);
        due.is("counter -1", c.tally(-1, 0, 1), -1);
        due.is("gate 5", c.tally(0, 5, 1), -1);
        due.is("gate -1", c.tally(0, -1, 1), -1);
        due.is("n 100", c.tally(0, 0, 100), -1);
        due.is("n -1", c.tally(0, 0, -1), -1);
        due.is("at first", c.tally(1, 4, 99), 0);
        due.is("the other counter", c.tally(0, 4, 98), 0);
        due.is("was", c.tally(1, 4, 0), 99);
        due.is("was too", c.tally(0, 4, 0), 98);
    }

    private static void tallies() {
        SherdCity c = three();
        due.is("unlike none", c.tallies(0), -3);
        due.is("no doubt", c.tallies(1), 0);
        due.is("could matter, none cast", c.tallies(2), 1);
        Due.sherd(c, "xyz", 4);
        Due.sherd(c, "xyz", 4);
        Due.sherd(c, "xyz", -1);
        Due.sherd(c, "abc", 1);
        due.is("can't matter", c.tallies(2), 0);
        c.tally(0, 4, 1);
        due.is("unlike", c.tallies(0), 4);
        due.is("doubt 1", c.tallies(1), 1);
        due.is("less than 3 - 1", c.tallies(2), 0);
        c.tally(1, 2, 1);
        due.is("unlike the first", c.tallies(0), 2);
        due.is("doubt adds up", c.tallies(1), 2);
        due.is("could matter", c.tallies(2), 1);
        int[] more = {100, 99, 100, 100, 99};
        for (int g = 0; g < 5; g++) {
            due.is("more through " + g, c.tallies(3 + g), more[g]);
        }
        c.tally(0, 0, 99);
        due.is("much more", c.tallies(3), 199);
        c.days(1);
        c.thrown(0);
        due.is("as known today", c.tallies(7), 100);
        due.is("what 8", c.tallies(8), -1);
        due.is("what -1", c.tallies(-1), -1);
    }
}
