/** Promises 1 to 13: days, wards, men. */
public final class MenTest {
    private static final Due due = new Due();

    public static void main(String[] args) {
        newObject();
        days();
        wet();
        wards();
        harvest();
        men();
        style();
        fear();
        words();
        talkSpreads();
        dread();
        rules();
        ofMan();
        due.end();
    }

    private static void newObject() {
        SherdCity c = new SherdCity();
        for (int what = 0; what <= 13; what++) {
            due.is("new many(" + what + ")", c.many(what), what == 11 ? 9 : 0);
        }
        due.is("new law", c.law(0), 10);
        due.is("new again", c.again(), -3);
        due.is("new trace", c.trace(0), -3);
        due.is("new row", c.row(0, 0), -9);
        due.is("new tallies 0", c.tallies(0), -3);
        due.is("new count first", c.count(0, 1), -3);
        for (int i = 0; i < 4; i++) {
            due.is("new sheet " + i, c.put(i, 0, 1), -11);
            due.is("new shelf " + i, c.taken(i, 0), -11);
        }
        int[] first = {300, 3, 1, 4};
        for (int i = 0; i < 4; i++) {
            due.is("new rule " + i, c.rule(i, 0), first[i]);
        }
    }

    private static void days() {
        SherdCity c = new SherdCity();
        due.is("days 0", c.days(0), -1);
        due.is("days -1", c.days(-1), -1);
        due.is("days 401", c.days(401), -1);
        due.is("days min", c.days(Integer.MIN_VALUE), -1);
        due.is("days max", c.days(Integer.MAX_VALUE), -1);
        due.is("days 1", c.days(1), 1);
        for (int i = 0; i < 24; i++) {
            due.is("days 400", c.days(400), 401 + 400 * i);
        }
        due.is("days beyond", c.days(399), -4);
        due.is("days to the last", c.days(398), 9999);
        due.is("days behind the last", c.days(1), -4);
        due.is("many 0", c.many(0), 9999);
    }

    private static void wet() {
        SherdCity c = new SherdCity();
        due.is("wet -1", c.wet(-1), -1);
        due.is("wet 10000", c.wet(10000), -1);
        due.is("wet 9999", c.wet(9999), 1);
        due.is("wet again", c.wet(9999), -4);
        for (int i = 0; i < 19; i++) {
            due.is("wet", c.wet(i), i + 2);
        }
        due.is("wet full", c.wet(500), -2);
        due.is("wet already, ahead of full", c.wet(3), -4);
        due.is("wet bad, ahead of full", c.wet(10000), -1);
        due.is("many 6", c.many(6), 20);
    }

    private static void wards() {
        SherdCity c = new SherdCity();
        due.is("tribe -1", c.ward(-1, 0), -1);
        due.is("tribe 5", c.ward(5, 0), -1);
        due.is("minutes -1", c.ward(0, -1), -1);
        due.is("minutes 601", c.ward(0, 601), -1);
        for (int i = 0; i < 8; i++) {
            due.is("ward " + i, c.ward(i % 5, i == 0 ? 600 : 0), i);
        }
        due.is("ward full", c.ward(0, 0), -2);
        due.is("ward bad, ahead of full", c.ward(5, 0), -1);
        due.is("many 1", c.many(1), 8);
    }

    private static void harvest() {
        SherdCity c = new SherdCity();
        due.is("no ward", c.harvest(0, 1, 2), -1);
        c.ward(0, 0);
        Due.man(c, -1, "a");
        due.is("ward 1", c.harvest(1, 1, 2), -1);
        due.is("ward -1", c.harvest(-1, 1, 2), -1);
        due.is("first -1", c.harvest(0, -1, 2), -1);
        due.is("last 10000", c.harvest(0, 1, 10000), -1);
        due.is("last ahead", c.harvest(0, 3, 2), -1);
        due.is("comes without", c.comes(0, 3), 1);
        due.is("harvest", c.harvest(0, 3, 5), 1);
        due.is("2", c.comes(0, 2), 1);
        due.is("3", c.comes(0, 3), 0);
        due.is("5", c.comes(0, 5), 0);
        due.is("6", c.comes(0, 6), 1);
        due.is("harvest anew", c.harvest(0, 9999, 9999), 1);
        due.is("3 is free", c.comes(0, 3), 1);
        due.is("9999", c.comes(0, 9999), 0);
    }

    private static void men() {
        SherdCity c = new SherdCity();
        due.is("no ward", c.man(0, 0, 1, 1), -1);
        c.ward(0, 0);
        due.is("club -2", c.man(0, -2, 1, 1), -1);
        due.is("club 6", c.man(0, 6, 1, 1), -1);
        due.is("name 0", c.man(0, 0, 0, 1), -1);
        due.is("name below", c.man(0, 0, -5, 1), -1);
        due.is("name with no letter in it", c.man(0, 0, Due.name("a") * 729 + 1, 1), -1);
        due.is("name ending with none", c.man(0, 0, 27, 1), -1);
        due.is("father 0", c.man(0, 0, 1, 0), -1);
        due.is("father none", c.man(0, 0, 1, 54), -1);
        due.is("seven letters", c.man(0, 0, 387420489, 1), -1);
        due.is("seven letters more", c.man(0, 0, 387420490, 1), -1);
        due.is("the greatest", c.man(0, 5, 387420488, 387420488), 0);
        due.is("the least", c.man(0, -1, 1, 1), 1);
        for (int i = 2; i < 16; i++) {
            due.is("man", c.man(0, 0, 1, 1), i);
        }
        due.is("full", c.man(0, 0, 1, 1), -2);
        due.is("bad, ahead of full", c.man(1, 0, 1, 1), -1);
        due.is("many 2", c.many(2), 16);
    }

    private static void style() {
        SherdCity c = new SherdCity();
        due.is("nobody", c.style(0, 0, 0), -1);
        c.ward(2, 0);
        c.man(0, 0, Due.name("ab"), Due.name("pa"));
        c.man(0, 1, Due.name("cd"), Due.name("po"));
        c.fear(0, 1, 5);
        due.is("hand -1", c.style(0, -1, 0), -1);
        due.is("hand 10000", c.style(0, 10000, 0), -1);
        due.is("how -1", c.style(0, 0, -1), -1);
        due.is("how 4", c.style(0, 0, 4), -1);
        due.is("hand at first", c.of(0, 4), 0);
        int[] father = {0, Due.name("po"), 0, Due.name("po")};
        int[] ward = {-3, -3, 0, 0};
        for (int how = 0; how < 4; how++) {
            due.is("style", c.style(0, 9999 - how, how), 1);
            due.is("hand", c.of(0, 4), 9999 - how);
            due.is("vote", c.vote(), 1);
            due.is("father as told", c.sherdOf(how, 1), father[how]);
            due.is("ward as told", c.sherdOf(how, 2), ward[how]);
            due.is("hand as told", c.sherdOf(how, 6), 9999 - how);
        }
    }

    private static void fear() {
        SherdCity c = new SherdCity();
        c.ward(0, 0);
        Due.man(c, 0, "a");
        due.is("no other", c.fear(0, 1, 1), -1);
        Due.man(c, 0, "b");
        due.is("himself", c.fear(0, 0, 1), -1);
        due.is("no man", c.fear(2, 0, 1), -1);
        due.is("v 10", c.fear(0, 1, 10), -1);
        due.is("v -1", c.fear(0, 1, -1), -1);
        due.is("at first", c.fear(0, 1, 9), 0);
        due.is("the other way", c.fear(1, 0, 3), 0);
        due.is("then", c.fear(0, 1, 0), 9);
        due.is("dread", c.dread(1, 0, 0), 3);
    }

    private static void words() {
        SherdCity c = new SherdCity();
        c.ward(0, 0);
        due.is("nobody", c.word(0, 1, 0), -1);
        Due.man(c, 0, "a");
        due.is("to nobody", c.word(0, 1, 1), -1);
        due.is("about nobody", c.word(1, 1, 0), -1);
        due.is("weight 6", c.word(0, 6, 0), -1);
        due.is("weight -6", c.word(0, -6, 0), -1);
        due.is("heard, no word", c.heard(0, 0), -1);
        c.days(7);
        for (int i = 0; i < 8; i++) {
            due.is("word", c.word(0, i % 2 == 0 ? 5 : -5, 0), i);
        }
        due.is("full", c.word(0, 1, 0), -2);
        due.is("bad, ahead of full", c.word(0, 9, 0), -1);
        due.is("heard", c.heard(0, 7), 7);
        due.is("heard, no such word", c.heard(0, 8), -1);
        due.is("heard, no such man", c.heard(1, 0), -1);
        due.is("heard -1", c.heard(0, -1), -1);
        due.is("many 3", c.many(3), 8);
    }

    private static void talkSpreads() {
        SherdCity c = new SherdCity();
        for (int i = 0; i < 4; i++) {
            c.ward(0, 0);
        }
        // 0 and 1 in ward 0; 1 and 2 of club 4; 2 and 3 in ward 1; 3 and 4 of no club; 5 alone.
        c.man(0, 0, 1, 1);
        c.man(0, 4, 1, 1);
        c.man(1, 4, 1, 1);
        c.man(1, -1, 1, 1);
        c.man(2, -1, 1, 1);
        c.man(3, 5, 1, 1);
        c.days(1);
        due.is("word", c.word(5, 3, 0), 0);
        due.is("1 not yet", c.heard(1, 0), -3);
        c.days(1);
        due.is("1 by his ward", c.heard(1, 0), 2);
        due.is("2 not: day 1 isn't 0 modulo 3", c.heard(2, 0), -3);
        c.days(1);
        due.is("2 not: nor is day 2", c.heard(2, 0), -3);
        c.days(1);
        due.is("2 by his club, as day 3 goes by", c.heard(2, 0), 4);
        due.is("3 not on the same day", c.heard(3, 0), -3);
        c.days(1);
        due.is("3 by his ward", c.heard(3, 0), 5);
        c.days(395);
        due.is("many 0", c.many(0), 400);
        due.is("4 never: of none is no club", c.heard(4, 0), -3);
        due.is("5 never", c.heard(5, 0), -3);
        due.is("0 keeps his day", c.heard(0, 0), 1);
        due.is("a man who comes late", c.man(1, -1, 1, 1), 6);
        due.is("has not heard", c.heard(6, 0), -3);
        c.days(1);
        due.is("hears as the day goes by", c.heard(6, 0), 401);
        SherdCity d = new SherdCity();
        d.ward(0, 0);
        d.ward(0, 0);
        d.ward(0, 0);
        d.man(0, 4, 1, 1);
        d.man(1, 4, 1, 1);
        d.man(1, 2, 1, 1);
        d.man(2, 2, 1, 1);
        d.days(1);
        d.word(0, 3, 0);
        d.days(400);
        int[] heard = {1, 4, 5, 7};
        for (int i = 0; i < 4; i++) {
            due.is("in one go too", d.heard(i, 0), heard[i]);
        }
    }

    private static void dread() {
        SherdCity c = new SherdCity();
        c.ward(0, 0);
        c.ward(0, 0);
        c.man(0, -1, 1, 1);
        c.man(0, -1, 1, 1);
        due.is("himself", c.dread(0, 0, 0), -1);
        due.is("no man", c.dread(0, 2, 0), -1);
        due.is("no man either", c.dread(2, 0, 0), -1);
        due.is("day -1", c.dread(0, 1, -1), -1);
        due.is("day 10000", c.dread(0, 1, 10000), -1);
        c.fear(0, 1, 9);
        due.is("fear", c.dread(0, 1, 9999), 9);
        c.days(2);
        c.word(1, 5, 0);
        c.word(1, 5, 0);
        c.word(0, 5, 0);
        due.is("ahead of the words", c.dread(0, 1, 1), 9);
        due.is("with the words about him", c.dread(0, 1, 2), 19);
        c.word(1, 5, 0);
        due.is("20 at most", c.dread(0, 1, 2), 20);
        for (int i = 0; i < 4; i++) {
            c.word(1, -5, 0);
        }
        due.is("the sum is bounded, not its parts", c.dread(0, 1, 2), 4);
        due.is("of another", c.dread(1, 0, 2), 0);
        SherdCity d = new SherdCity();
        d.ward(0, 0);
        d.man(0, -1, 1, 1);
        d.man(0, -1, 1, 1);
        d.fear(0, 1, 2);
        d.word(1, -5, 0);
        due.is("0 at least", d.dread(0, 1, 0), 0);
    }

    private static void rules() {
        SherdCity c = new SherdCity();
        int[] most = {1200, 20, 20, 36};
        int[] first = {300, 3, 1, 4};
        for (int i = 0; i < 4; i++) {
            due.is("above", c.rule(i, most[i] + 1), -1);
            due.is("below", c.rule(i, -1), -1);
            due.is("at first", c.rule(i, most[i]), first[i]);
            due.is("most", c.rule(i, 0), most[i]);
            due.is("least", c.rule(i, 1), 0);
        }
        due.is("what 4", c.rule(4, 1), -1);
        due.is("what -1", c.rule(-1, 1), -1);
    }

    private static void ofMan() {
        SherdCity c = new SherdCity();
        due.is("nobody", c.of(0, 0), -1);
        c.ward(0, 0);
        c.ward(3, 0);
        c.man(1, 5, Due.name("ab"), Due.name("cd"));
        c.man(0, -1, Due.name("xy"), Due.name("z"));
        int[] want = {1, 5, Due.name("ab"), Due.name("cd"), 0, -3, -3, 0};
        for (int what = 0; what < 8; what++) {
            due.is("of " + what, c.of(0, what), want[what]);
        }
        due.is("no club", c.of(1, 1), -3);
        c.man(0, 0, 1, 1);
        due.is("club 0", c.of(2, 1), 0);
        due.is("what 8", c.of(0, 8), -1);
        due.is("what -1", c.of(0, -1), -1);
        due.is("man 3", c.of(3, 0), -1);
        due.is("man -1", c.of(-1, 0), -1);
        Due.sherd(c, "ab", 0);
        Due.rule(c, "years 0;");
        due.is("sent for no years", c.send(), 0);
        due.is("since", c.of(0, 5), 0);
        due.is("till, below 0", c.of(0, 6), -1);
        due.is("not recalled", c.of(0, 7), 0);
        Due.rule(c, "years 50;");
        due.is("sent for long", c.send(), 0);
        due.is("till, beyond 9999", c.of(0, 6), 17999);
        due.is("recalled", c.recall(0, 1, 1), 1);
        due.is("till as the day begins", c.of(0, 6), -1);
        due.is("recalled then", c.of(0, 7), 1);
        due.is("sent anew", c.send(), 0);
        due.is("not recalled then", c.of(0, 7), 0);
    }
}
