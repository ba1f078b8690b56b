/** Promises 18 to 22: sherds. */
public final class SherdTest {
    private static final Due due = new Due();

    public static void main(String[] args) {
        sherd();
        vote();
        thrown();
        sherdOf();
        meant();
        apart();
        due.end();
    }

    private static void sherd() {
        SherdCity c = new SherdCity();
        due.is("name 0", c.sherd(0, 0, -1, -1, 0, 0), -1);
        due.is("name none", c.sherd(27, 0, -1, -1, 0, 0), -1);
        due.is("father none", c.sherd(1, 27, -1, -1, 0, 0), -1);
        due.is("father below", c.sherd(1, -1, -1, -1, 0, 0), -1);
        due.is("second none", c.sherd(1, 0, -1, -1, 27, 0), -1);
        due.is("no ward", c.sherd(1, 0, 0, -1, 0, 0), -1);
        due.is("ward -2", c.sherd(1, 0, -2, -1, 0, 0), -1);
        due.is("gate 5", c.sherd(1, 0, -1, 5, 0, 0), -1);
        due.is("gate -2", c.sherd(1, 0, -1, -2, 0, 0), -1);
        due.is("how -1", c.sherd(1, 0, -1, -1, 0, -1), -1);
        due.is("how 20000", c.sherd(1, 0, -1, -1, 0, 20000), -1);
        c.ward(0, 0);
        for (int i = 0; i < 40; i++) {
            due.is("sherd", c.sherd(1, 2, 0, 4, 3, 19999), i);
        }
        due.is("full", c.sherd(1, 0, -1, -1, 0, 0), -2);
        due.is("bad, ahead of full", c.sherd(1, 0, 1, -1, 0, 0), -1);
        due.is("many 5", c.many(5), 40);
    }

    private static void vote() {
        SherdCity c = new SherdCity();
        due.is("no men", c.vote(), 0);
        c.ward(3, 0);
        c.ward(4, 301);
        Due.man(c, 0, "ab");
        Due.man(c, 0, "cd");
        c.man(1, 0, Due.name("ef"), 1);
        due.is("nobody dreads", c.vote(), 0);
        c.fear(1, 0, 1);
        c.fear(0, 2, 1);
        c.fear(2, 0, 1);
        c.style(1, 77, 0);
        c.days(4);
        due.is("two come", c.vote(), 2);
        due.is("by numbers: 0 wrote", c.sherdOf(0, 0), Due.name("ef"));
        due.is("1 wrote", c.sherdOf(1, 0), Due.name("ab"));
        int[] want = {Due.name("ab"), 0, -3, 3, 0, 0, 77, 4, -3, 1, 1, 1};
        for (int what = 0; what < want.length; what++) {
            due.is("of a vote's sherd " + what, c.sherdOf(1, what), want[what]);
        }
        for (int i = 2; i < 38; i++) {
            Due.sherd(c, "zz", -1);
        }
        due.is("just room", c.vote(), 2);
        due.is("no room", c.vote(), -2);
        SherdCity d = new SherdCity();
        d.ward(0, 0);
        Due.man(d, 0, "ab");
        Due.man(d, 0, "cd");
        d.rule(2, 0);
        for (int i = 0; i < 39; i++) {
            Due.sherd(d, "zz", -1);
        }
        due.is("room for one of two", d.vote(), -2);
        due.is("none is made", d.many(5), 39);
    }

    private static void thrown() {
        SherdCity c = new SherdCity();
        c.ward(0, 0);
        Due.man(c, 0, "ab");
        due.is("none such", c.thrown(0), -1);
        Due.sherd(c, "ab", 0);
        due.is("not thrown", c.sherdOf(0, 8), -3);
        c.days(5);
        due.is("thrown", c.thrown(0), 1);
        due.is("it was", c.thrown(0), -4);
        due.is("none such", c.thrown(1), -1);
        due.is("below", c.thrown(-1), -1);
        due.is("on", c.sherdOf(0, 8), 5);
        due.is("counts ahead of that", c.count(4, 0), 1);
        due.is("no more from that day on", c.count(5, 0), 0);
        Due.sherd(c, "ab", 0);
        SherdCity d = new SherdCity();
        Due.sherd(d, "ab", 0);
        due.is("thrown on day 0", d.thrown(0), 1);
        due.is("on day 0", d.sherdOf(0, 8), 0);
        due.is("it was on day 0", d.thrown(0), -4);
        due.is("doesn't count", d.count(0, 0), 0);
        due.is("it is there still", c.many(5), 2);
        due.is("and good", c.sherdOf(0, 11), 1);
    }

    private static void sherdOf() {
        SherdCity c = new SherdCity();
        due.is("none such", c.sherdOf(0, 0), -1);
        c.ward(0, 0);
        c.ward(0, 0);
        c.days(9);
        c.sherd(Due.name("ab"), Due.name("c"), 1, 0, Due.name("d"), 10123);
        int[] want = {Due.name("ab"), Due.name("c"), 1, 0, Due.name("d"), 1, 123, 9, -3, 0, 0, 0};
        for (int what = 0; what < want.length; what++) {
            due.is("of " + what, c.sherdOf(0, what), want[what]);
        }
        due.is("what 12", c.sherdOf(0, 12), -1);
        due.is("what -1", c.sherdOf(0, -1), -1);
        due.is("sherd -1", c.sherdOf(-1, 0), -1);
        c.sherd(Due.name("ab"), 0, -1, -1, 0, 9999);
        int[] bare = {Due.name("ab"), 0, -3, -3, 0, 0, 9999};
        for (int what = 0; what < bare.length; what++) {
            due.is("bare, of " + what, c.sherdOf(1, what), bare[what]);
        }
    }

    private static void meant() {
        SherdCity c = new SherdCity();
        c.ward(0, 0);
        c.ward(0, 0);
        c.man(0, 0, Due.name("abc"), Due.name("x"));
        c.man(1, 0, Due.name("abd"), Due.name("x"));
        c.man(1, 0, Due.name("abc"), Due.name("y"));
        c.man(0, 0, Due.name("pqr"), Due.name("y"));
        check(c, "abc", "", -1, 3, 0b101);
        check(c, "abc", "x", -1, 1, 0b001);
        check(c, "abc", "y", -1, 1, 0b100);
        check(c, "abc", "", 1, 1, 0b100);
        check(c, "abc", "x", 1, 2, 0b010);
        check(c, "abc", "z", -1, 0, 0);
        check(c, "abd", "", -1, 1, 0b010);
        check(c, "abe", "", -1, 3, 0b111);
        check(c, "ab", "", -1, 3, 0b111);
        check(c, "abcd", "", -1, 3, 0b111);
        check(c, "abcde", "", -1, 0, 0);
        check(c, "pqrs", "", -1, 2, 0b1000);
        check(c, "qr", "", 0, 2, 0b1000);
        check(c, "qr", "", 1, 0, 0);
        due.is("one comes late", c.man(0, 0, Due.name("qr"), Due.name("y")), 4);
        int last = c.many(5) - 2;
        due.is("and is meant now", c.sherdOf(last, 9), 1);
        due.is("alone, for it is exactly he", c.sherdOf(last, 10), 16);
    }

    private static void check(SherdCity c, String name, String father, int ward, int how, int bits) {
        int s = c.sherd(Due.name(name), Due.name(father), ward, -1, 0, 0);
        due.is("meant by " + name + " " + father + " " + ward, c.sherdOf(s, 9), how);
        due.is("men meant by " + name + " " + father + " " + ward, c.sherdOf(s, 10), bits);
    }

    private static void apart() {
        SherdCity c = new SherdCity();
        String[][] pairs = {
            {"a", "a", "0"}, {"a", "b", "1"}, {"ab", "ba", "2"}, {"abc", "bc", "1"}, {"abcdef", "bcdefa", "2"},
            {"abcdef", "ghijkl", "6"}, {"a", "abcdef", "5"}, {"kitten", "sittin", "2"}, {"zzzzzz", "zz", "4"},
            {"abab", "baba", "2"}, {"axbxc", "abc", "2"},
        };
        for (String[] p : pairs) {
            int want = Integer.parseInt(p[2]);
            due.is("apart " + p[0] + " " + p[1], c.apart(Due.name(p[0]), Due.name(p[1])), want);
            due.is("apart " + p[1] + " " + p[0], c.apart(Due.name(p[1]), Due.name(p[0])), want);
        }
        due.is("none", c.apart(0, 1), -1);
        due.is("none either", c.apart(1, 27), -1);
        due.is("below", c.apart(-1, 1), -1);
        due.is("seven letters", c.apart(1, 387420489), -1);
    }
}
