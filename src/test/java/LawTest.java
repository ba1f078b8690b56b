/** Promises 23 to 26: laws. */
public final class LawTest {
    private static final Due due = new Due();

    public static void main(String[] args) {
        feed();
        read();
        faults();
        force();
        laws();
        conditions();
        facts();
        longLaws();
        due.end();
    }

    private static void feed() {
        SherdCity c = new SherdCity();
        due.is("n 0", c.feed(1, 0), -1);
        due.is("n 9", c.feed(1, 9), -1);
        due.is("n -1", c.feed(1, -1), -1);
        for (int i = 1; i <= 37; i++) {
            due.is("feed", c.feed(-1, 8), 8 * i);
        }
        due.is("too many", c.feed(0, 5), -2);
        due.is("bad, ahead of full", c.feed(0, 9), -1);
        due.is("just so", c.feed(0, 4), 300);
        due.is("full", c.feed(0, 1), -2);
        due.is("many 9", c.many(9), 300);
        due.is("bytes above 127 are no text", c.read(0), -100);
        due.is("used up", c.many(9), 0);
        c.feed(0x3b31_2079_616dL | 0x5555_0000_0000_0000L, 6);
        due.is("the lowest first, no more than n", c.read(0), 1);
    }

    private static void read() {
        SherdCity c = new SherdCity();
        due.is("law -1", c.read(-1), -1);
        Due.feed(c, "years 3;");
        due.is("law 4", c.read(4), -1);
        due.is("the tape is there still", c.many(9), 8);
        due.is("law 3", c.read(3), 1);
        due.is("the tape is used up", c.many(9), 0);
        due.is("a fault", Due.read(c, 3, "years 7; x"), -109);
        due.is("uses up the tape", c.many(9), 0);
        c.force(3);
        due.is("the law is as it was", c.law(0), 3);
        due.is("read anew", Due.read(c, 3, "years 4;"), 1);
        due.is("is the law at once", c.law(0), 4);
        due.is("an empty one", c.read(3), 0);
        due.is("tells nothing", c.law(0), 10);
        String five = " may 0;recall yes ;years 0050 ; enough 1 ;good not(two) ; ";
        due.is("five lines in any order", Due.read(c, 2, five), 5);
        due.is("blanks alone", Due.read(c, 2, "   "), 0);
    }

    private static void faults() {
        String[][] texts = {
            {"good", "4"}, {"good ", "5"}, {"good;", "4"}, {"good name", "9"}, {"good name   ", "12"}, {"bad name;", "0"},
            {"  ;", "2"}, {"good name;;", "10"}, {"good name;good name;", "10"}, {"years 1;years 2;", "8"},
            {"years 51;", "6"}, {"years 00050;", "6"}, {"years name;", "6"}, {"years;", "5"}, {"years 5 5;", "8"},
            {"years 5", "7"}, {"years 5+5;", "7"}, {"years (5);", "6"}, {"years -1;", "6"},
            {"good total;", "5"}, {"enough name;", "7"}, {"recall first;", "7"}, {"may yes;", "4"}, {"may name;", "4"},
            {"goodname;", "0"}, {"good namesure;", "5"}, {"good name sure;", "10"}, {"good nam;", "5"}, {"good names;", "5"},
            {"good 1 2;", "7"}, {"good 12345;", "5"}, {"good 1+12345;", "7"}, {"good 1a;", "6"}, {"good 1 enough 1;", "7"},
            {"good +1;", "5"}, {"good -1;", "5"}, {"good 1+;", "7"}, {"good 1+-1;", "7"}, {"good 1+(1);", "7"},
            {"good (1)+1;", "8"}, {"good (1)<1;", "8"}, {"good (1<1)=1;", "10"}, {"good 1<(1);", "7"}, {"good 1<;", "7"},
            {"good 1<1=1;", "8"}, {"good 1<1+1>2;", "10"}, {"good <1;", "5"}, {"good 1==1;", "7"}, {"good 1<=1;", "7"},
            {"good not;", "8"}, {"good not not", "12"}, {"good 1 not 1;", "7"}, {"good 1<not 1;", "7"}, {"good 1 and;", "10"},
            {"good and 1;", "5"}, {"good 1 or or 1;", "10"}, {"good 1 or and 1;", "10"}, {"good 1);", "6"}, {"good (1;", "7"},
            {"good (1", "7"}, {"good ();", "6"}, {"good )", "5"}, {"good (1))", "8"}, {"good ((1);", "9"}, {"good (1)(1);", "8"},
            {"good (1) 1;", "9"}, {"good (1) not 1;", "9"}, {"good ((((((1))))));", "10"}, {"good ((((( (", "11"},
            {"good (((((1))))) and ((((((1))))));", "26"}, {"good 1;enough ((((((", "19"}, {"Good 1;", "0"}, {"good Name;", "5"},
            {"good\tname;", "4"}, {"good name\n;", "9"}, {"good 1!;", "6"}, {"good 1*2;", "6"}, {"good 1,", "6"}, {"1", "0"},
            {"good years;", "5"}, {"good good;", "5"}, {"enough total total;", "13"}, {"nothing", "0"}, {"goo", "0"}, {"goodz 1;", "0"}, {"good namez;", "5"}, {"good az", "5"},
            {"good 1`;", "6"}, {"good {", "5"}, {"good 1/1;", "6"}, {"good 1:", "6"},
        };
        for (String[] t : texts) {
            SherdCity c = new SherdCity();
            due.is("fault of " + t[0], Due.read(c, 0, t[0]), -100 - Integer.parseInt(t[1]));
            due.is("not read: " + t[0], c.force(0), -8);
        }
        String[] right = {
            "good 1and 2or 3;", "good not not not 1;", "good(name)and(sure);", "good 1<2 and 2<1 or 3=3;", "years50;",
            "good (((((1))))) and (((((1)))));", "may years+days-years>0;", "good not(not(not(not(not 1))));", "good 9999;",
        };
        for (String t : right) {
            due.is("right: " + t, Due.read(new SherdCity(), 0, t), 1);
        }
    }

    private static void force() {
        SherdCity c = new SherdCity();
        due.is("law -2", c.force(-2), -9);
        due.is("law 4", c.force(4), -9);
        due.is("never read", c.force(3), -8);
        due.is("at first", c.force(-1), -1);
        Due.read(c, 3, "years 1;");
        c.read(0);
        due.is("was none", c.force(3), -1);
        due.is("was 3", c.force(0), 3);
        due.is("was 0", c.force(-1), 0);
        due.is("many 11 without", c.many(11), 9);
        c.force(3);
        due.is("many 11", c.many(11), 3);
    }

    private static void laws() {
        SherdCity c = new SherdCity();
        due.is("what 5", c.law(5), -1);
        due.is("what -1", c.law(-1), -1);
        String[] lines = {"good 1;", "enough 1;", "recall 1;", "may 1;"};
        for (int i = 0; i < 4; i++) {
            due.is("without", c.law(i + 1), 0);
            Due.rule(c, lines[i]);
            for (int what = 1; what <= 4; what++) {
                due.is("tells " + lines[i] + what, c.law(what), what == i + 1 ? 1 : 0);
            }
            due.is("years without", c.law(0), 10);
            c.force(-1);
        }
        Due.rule(c, "years 0;");
        due.is("years 0", c.law(0), 0);
        due.is("years is none of the four", c.law(1) + c.law(2) + c.law(3) + c.law(4), 0);
    }

    private static void conditions() {
        String[][] conds = {
            {"0", "0"}, {"7", "1"}, {"2-2", "0"}, {"1-2", "1"}, {"not 0", "1"}, {"not not 5", "1"}, {"not 5", "0"},
            {"1 or 1 and 0", "1"}, {"0 and 1 or 1", "1"}, {"(1 or 1) and 0", "0"}, {"not 1 or 1", "1"}, {"not (1 or 1)", "0"},
            {"not 1 and 0", "0"}, {"not 1 < 0", "1"}, {"not 0 = 0", "0"}, {"5-3-2", "0"}, {"5-3+2=4", "1"}, {"1<2", "1"},
            {"2<2", "0"}, {"2>2", "0"}, {"3>2", "1"}, {"2=2", "1"}, {"2=3", "0"}, {"1+1=3-1", "1"}, {"0-5<0", "1"},
            {"9999+1>9999", "1"}, {"2 and 4", "1"}, {"2 or 0", "1"}, {"0007=7", "1"}, {"not(not(not(not(not 1))))", "0"},
            {"1 and 1 and 0 or 0 or 1", "1"}, {"0 or 0 and 1", "0"}, {"1=1 and not 2=2 or 0", "0"}, {"(((((3)))))", "1"},
            {"not (1) and 1", "0"}, {"not not (0) or 0", "0"}, {"1-1<1-0", "1"}, {"4-(1)", "x"},
        };
        for (String[] t : conds) {
            SherdCity c = new SherdCity();
            Due.sherd(c, "ab", 0);
            if (Due.read(c, 1, "good " + t[0] + ";") == 1) {
                c.force(1);
                due.is(t[0], c.sherdOf(0, 11), Integer.parseInt(t[1]));
            } else {
                due.holds(t[0] + " is no law", t[1].equals("x"));
            }
        }
    }

    /** Laws as long as the tape is. */
    private static void longLaws() {
        String sum = "good 1" + "+1".repeat(143) + "=144 ;";
        is(sum + " ".repeat(300 - sum.length()), 1);
        is("good 1" + "-1".repeat(144) + "<0 ;", 1);
        is("good 0" + "or0".repeat(97) + "or1", 300, 0);
        is("good 0" + "or0".repeat(96) + "or1;", 1);
        String or = "good 0" + " or 0".repeat(57) + " or 1;";
        is(or, 1);
        is("good 1" + " and 1".repeat(47) + " and 0;", 0);
        is("good " + "not ".repeat(73) + "0;", 1);
        is("good " + "not ".repeat(72) + "0;", 0);
        String nested = "0 or 1 and (0 or 1 and (0 or 1 and (0 or 1 and (0 or 1 and (0 or 1 and 5 < 2 + 4)))))";
        is("good " + nested + ";", 1);
        is("good " + nested.replace("5", "6") + ";", 0);
        is("good not(not(not(not(not(" + "not ".repeat(60) + "1)))));", 0);
    }

    private static void is(String text, int good) {
        is(text, -1, good);
    }

    /** The fault of a text, or what it tells of a sherd. */
    private static void is(String text, int fault, int good) {
        SherdCity c = new SherdCity();
        Due.sherd(c, "ab", 0);
        due.holds(text.length() + " bytes at most 300", text.length() <= 300);
        due.is("read " + text, Due.read(c, 3, text), fault < 0 ? 1 : -100 - fault);
        if (fault < 0) {
            c.force(3);
            due.is("good by " + text, c.sherdOf(0, 11), good);
        }
    }

    private static void facts() {
        SherdCity c = new SherdCity();
        c.ward(0, 0);
        c.man(0, 0, Due.name("abc"), Due.name("pa"));
        c.sherd(Due.name("abc"), 0, -1, -1, 0, 0);
        c.sherd(Due.name("abd"), Due.name("pa"), -1, -1, 0, 0);
        c.sherd(Due.name("xyz"), 0, 0, -1, 0, 0);
        c.sherd(Due.name("xyz"), 0, -1, 0, 0, 0);
        c.sherd(Due.name("xyz"), 0, -1, -1, 1, 0);
        c.sherd(Due.name("xyz"), 0, -1, -1, 0, 10000);
        String[] names = {"name", "sure", "father", "ward", "gate", "two", "ready"};
        int[] bits = {0b000011, 0b000001, 0b000010, 0b000100, 0b001000, 0b010000, 0b100000};
        for (int f = 0; f < names.length; f++) {
            Due.rule(c, "good " + names[f] + "=1;");
            for (int s = 0; s < 6; s++) {
                due.is(names[f] + " of " + s, c.sherdOf(s, 11), bits[f] >> s & 1);
            }
        }
        c.force(-1);
        for (int s = 0; s < 6; s++) {
            due.is("without: name of " + s, c.sherdOf(s, 11), bits[0] >> s & 1);
        }
    }
}
