/** Cities that the tests of edges begin with. */
final class Scenes {
    static final Scene NEW = Scene.of(c -> { });
    /** Some of everything, and room for more of it; TODAY is 6, and something else is kept. */
    static final Scene BUSY = NEW.then(Scenes::settle).then(Scenes::speak).then(Scenes::judge).then(SherdCity::keep)
        .then(Scenes::goOn).then(Scenes::host);
    /** As much of everything as there may be, on the last of all DAYS. */
    static final Scene FULL = NEW.then(Scenes::fillMen).then(Scenes::fillRest).then(Scenes::toTheLastDay).then(Scenes::fillHost);

    private Scenes() { }

    static int man(SherdCity c, int ward, int club, String name, String father) {
        return c.man(ward, club, Due.name(name), Due.name(father));
    }

    /** So many DAYS go by. */
    static Scene onDay(Scene scene, int day) {
        return scene.then(c -> pass(c, day));
    }

    static void pass(SherdCity c, int days) {
        for (int left = days; left > 0; left -= 400) {
            c.days(Math.min(400, left));
        }
    }

    /** A ward and men of no club called a, b, c and so on. */
    static Scene men(int howMany) {
        return NEW.then(c -> {
            c.ward(0, 0);
            for (int i = 0; i < howMany; i++) {
                c.man(0, -1, 1 + i, Due.name("pa"));
            }
        });
    }

    /** A ward and men of no club with names that are not alike. */
    static Scene strangers(int howMany) {
        return NEW.then(c -> {
            c.ward(0, 0);
            for (int i = 0; i < howMany; i++) {
                man(c, 0, -1, stranger(i), "pa");
            }
        });
    }

    static String stranger(int i) {
        return String.valueOf((char) ('a' + i)).repeat(3);
    }

    private static void settle(SherdCity c) {
        c.ward(0, 100);
        c.ward(1, 200);
        c.ward(4, 300);
        man(c, 0, 0, "ab", "pa");
        man(c, 0, 1, "cd", "pa");
        man(c, 1, 1, "ab", "po");
        man(c, 1, -1, "efg", "po");
        man(c, 2, 2, "hij", "pa");
        c.style(0, 1234, 3);
        c.style(1, 9999, 1);
        c.style(2, 17, 2);
        c.harvest(1, 7, 8);
        c.wet(5);
        c.wet(9);
    }

    private static void speak(SherdCity c) {
        c.fear(0, 1, 4);
        c.fear(0, 2, 2);
        c.fear(1, 2, 9);
        c.fear(2, 1, 6);
        c.fear(3, 1, 5);
        c.word(1, 5, 4);
        c.days(1);
        c.word(2, -3, 0);
        c.bargain(1, 0, 0, 50);
        c.bargain(0, 3, 2, 6);
        c.days(1);
    }

    private static void judge(SherdCity c) {
        Due.read(c, 0, "good name and not two; enough first > 1; years 2;");
        Due.read(c, 2, "recall yes > 2; may days > 3; years 1;");
        c.force(2);
        c.vote();
        c.sherd(Due.name("cd"), 0, -1, -1, 0, 10077);
        c.sherd(Due.name("cdx"), Due.name("pa"), 0, 3, Due.name("ab"), 8);
        c.heap(1);
        c.heap(0);
        c.tally(0, 1, 7);
        c.tally(1, 4, 9);
    }

    private static void goOn(SherdCity c) {
        c.rule(0, 400);
        c.rule(1, 5);
        c.rule(2, 2);
        c.rule(3, 9);
        c.send();
        c.days(4);
        c.thrown(2);
        c.heap(3);
        c.tally(0, 0, 3);
    }

    private static void host(SherdCity c) {
        c.sheet(0, 2, 8);
        c.put(0, 1, 29);
        c.put(0, 3, -1);
        c.sheet(1, 0, 3);
        c.put(1, 2, -7);
        c.shelf(0, 2, 1);
        c.shelf(1, 0, 0);
        c.shelf(2, 3, 1);
        c.prove(6);
        c.alterRow(1, 1, 5);
        Due.feed(c, "years 7;");
        c.act(0, 3, 9);
    }

    private static void fillMen(SherdCity c) {
        for (int i = 0; i < 8; i++) {
            c.ward(i % 5, 40 * i);
        }
        for (int i = 0; i < 16; i++) {
            man(c, i / 2, i % 7 - 1, stranger(i), i % 3 == 0 ? "pa" : "po");
            c.style(i, 617 * i, i % 4);
        }
        for (int i = 0; i < 16; i++) {
            c.fear(i, (i + 5) % 16, 1 + i % 9);
        }
        for (int i = 0; i < 8; i++) {
            c.word(i, i - 4, 15 - i);
            c.bargain(i % 6, 2 * i, i, 9999);
        }
        for (int i = 0; i < 20; i++) {
            c.wet(i < 19 ? 2 * i : 9999);
        }
    }

    private static void fillRest(SherdCity c) {
        c.vote();
        c.days(5);
        for (int i = c.many(5); i < 40; i++) {
            c.sherd(Due.name(stranger(i % 5)), 0, -1, i % 6 - 1, 0, 500 * i);
        }
        c.send();
        c.days(1);
        for (int i = 0; i < 9; i++) {
            c.heap(4 * i + 3);
        }
        for (int i = 0; i < 4; i++) {
            Due.read(c, i, "years " + (i + 1) + ";");
        }
        c.force(3);
        c.harvest(7, 9999, 9999);
        c.keep();
    }

    private static void toTheLastDay(SherdCity c) {
        pass(c, 9999 - 6);
        c.thrown(0);
        c.send();
        c.prove(9999);
    }

    private static void fillHost(SherdCity c) {
        for (int i = 0; i < 4; i++) {
            c.sheet(i, i == 3 ? 4 : i, 40);
            c.put(i, 39, -1 - i);
        }
        c.shelf(0, 0, 39);
        c.shelf(1, 1, 7);
        c.shelf(2, 3, 2);
        c.act(1, 2, 5);
        Due.feed(c, "may 1;" + " ".repeat(294));
    }
}
