/** Promises 23 to 26: what the document says of their edges. */
public final class EdgeLawTest {
    private static final int BAD = SherdCity.BAD, FULL = SherdCity.FULL;
    private static final Edge edge = new Edge();

    public static void main(String[] args) {
        promise23();
        lowestFirst();
        promise24();
        faultUsesUpTheTape();
        howManyLines();
        numbers();
        parentheses();
        linesOnce();
        faultsAtTheEnds();
        everyPrefix();
        everythingAtEveryPlace();
        oneBehindAnother();
        factsOfOtherLines();
        factsOfSherds();
        numbersAreTrue();
        promise25();
        promise26();
        withoutLines();
        edge.end();
    }

    private static void promise23() {
        edge.takes("n bytes (1 to 8)", Scenes.NEW, 1, 8, BAD, (c, v) -> c.feed(-1L, v));
        edge.takes("n bytes (1 to 8)", Scenes.BUSY, 1, 8, BAD, (c, v) -> c.feed(0L, v));
        Scene room = Scenes.NEW.then(c -> Due.feed(c, " ".repeat(292)));
        edge.answers("300 at most: how many it has", room, c -> c.feed(0L, 8), 300);
        Scene little = Scenes.NEW.then(c -> Due.feed(c, " ".repeat(297)));
        edge.answers("just room", little, c -> c.feed(0L, 3), 300);
        edge.refused("FULL: more than 300", little, c -> c.feed(0L, 4), FULL);
        edge.refused("FULL: no room at all", Scenes.FULL, c -> c.feed(0L, 1), FULL);
        edge.refusesOutside("BAD is named ahead of FULL", Scenes.FULL, 1, 8, BAD, (c, v) -> c.feed(0L, v));
    }

    private static void lowestFirst() {
        Scene fed = Scenes.NEW.then(c -> c.feed('y' | 'e' << 8 | 'a' << 16, 3)).then(c -> c.feed('r' | 's' << 8, 2))
            .then(c -> c.feed('5' | 0x7f00L, 1)).then(c -> c.feed(';' | -256L, 1));
        edge.answers("the lowest of eight first, and n of them alone", fed, c -> c.read(0), 1);
        edge.answers("what they tell", fed.then(c -> c.read(0)).then(c -> c.force(0)), c -> c.law(0), 5);
        Scene high = Scenes.NEW.then(c -> c.feed(0x80L << 56 | 0x20202020202020L, 8));
        edge.answers("the highest of eight is the eighth byte, whatever its sign", high, c -> c.read(0), -107);
        Scene zero = Scenes.NEW.then(c -> c.feed(' ', 2));
        edge.answers("a byte 0 is no blank", zero, c -> c.read(0), -101);
    }

    private static void promise24() {
        edge.takes("LAWS 0 to 3", Scenes.BUSY, 0, 3, BAD, SherdCity::read);
        edge.refusesOutside("BAD: there is no such LAW", Scenes.NEW, 0, 3, BAD, SherdCity::read);
        Scene wrong = Scenes.BUSY.then(c -> c.read(3)).then(c -> Due.feed(c, "wrong"));
        edge.refusesOutside("BAD leaves THE TAPE, also one with a FAULT", wrong, 0, 3, BAD, SherdCity::read);
        edge.answers("THE TAPE is there still", Scenes.BUSY.then(c -> c.read(4)), c -> c.many(9), 8);
        edge.answers("read() uses it up", Scenes.BUSY.then(c -> c.read(3)), c -> c.many(9), 0);
        edge.answers("so it is empty", Scenes.BUSY.then(c -> c.read(3)), c -> c.read(3), 0);
        edge.answers("and has all its room", Scenes.FULL.then(c -> c.read(3)), c -> c.feed(0L, 8), 8);
    }

    private static void faultUsesUpTheTape() {
        Scene empty = Scenes.BUSY.then(c -> c.read(3)).then(c -> c.force(2));
        Scene tried = empty.then(c -> Due.feed(c, "good 0; enough 0; recall 1; may 1; years 9; x"));
        edge.answers("the FAULT", tried, c -> c.read(2), -144);
        edge.holds("a TEXT with a FAULT uses up THE TAPE, and changes nothing else", tried.then(c -> c.read(2)).isLike(empty));
        edge.holds("nor for a LAW that was never read", tried.then(c -> c.read(1)).isLike(empty));
        edge.answers("it was never read then", tried.then(c -> c.read(1)), c -> c.force(1), -8);
        edge.answers("a LAW that is THE LAW goes on as it was", tried.then(c -> c.read(2)), c -> c.law(0), 1);
    }

    private static void reads(String sentence, String text, int want) {
        edge.answers(sentence + ": " + text, Scenes.NEW.then(c -> Due.feed(c, text)), c -> c.read(3), want);
        boolean right = want >= 0;
        edge.answers("it is " + (right ? "read" : "not read") + ": " + text, Scenes.NEW.then(c -> Due.feed(c, text))
            .then(c -> c.read(3)), c -> c.force(3), right ? -1 : -8);
    }

    private static void fault(String sentence, String text, int place) {
        reads(sentence, text, -100 - place);
    }

    private static void howManyLines() {
        reads("an empty TEXT", "", 0);
        reads("blanks alone", " ".repeat(300), 0);
        String[] lines = {"good 1;", "enough 1;", "recall 1;", "may 1;", "years 1;"};
        StringBuilder text = new StringBuilder();
        for (int i = 0; i < 5; i++) {
            text.append(lines[i]);
            reads("how many lines", text.toString(), i + 1);
            reads("any of them first", lines[4 - i] + lines[(7 - i) % 5], 2);
        }
        reads("300 bytes", " ".repeat(293) + "good 1;", 1);
        reads("blanks between", " good  1   ;  ", 1);
        reads("no blanks where none are needed", "good(1)and(1);", 1);
    }

    private static void numbers() {
        reads("NUMBERS (4 at most)", "good 9999;", 1);
        fault("NUMBERS (4 at most)", "good 10000;", 5);
        fault("as long as they go", "good 00000;", 5);
        fault("in a SUM", "good 1 - 99999;", 9);
        reads("N: 0 to 50", "years 0;", 1);
        reads("N: 0 to 50", "years 50;", 1);
        reads("N: 0 to 50, as four digits", "years 0050;", 1);
        fault("N: 0 to 50", "years 51;", 6);
        fault("N: 0 to 50", "years 9999;", 6);
        fault("N: 4 digits at most", "years 00001;", 6);
        fault("N: not below 0", "years -1;", 6);
        fault("blanks part NUMBERS", "years 5 0;", 8);
    }

    private static void parentheses() {
        reads("at most 5 are open within one another", "good (((((1)))));", 1);
        fault("the sixth", "good ((((((1))))));", 10);
        reads("those that are closed are not open", "good (((((1))))) or (((((1))))) and (1);", 1);
        fault("the sixth behind others", "good (((((1))))) or ((((( (1))))));", 26);
        fault("the sixth, also without an end", "good ((((((", 10);
        reads("each line has its own", "good (((((1))))); may (((((1)))));", 2);
        fault("more must come", "good (((((1))))", 15);
        fault("too many closed", "good (((((1))))));", 16);
        fault("nothing in it", "good ()", 6);
    }

    private static void linesOnce() {
        String[] lines = {"good 1;", "enough 1;", "recall 1;", "may 1;", "years 1;"};
        for (int i = 0; i < 5; i++) {
            fault("a line that is there already at its WORD", lines[i] + " " + lines[i], lines[i].length() + 1);
            String others = lines[(i + 1) % 5] + lines[(i + 2) % 5] + lines[i];
            fault("a line that is there already, behind others", others + lines[(i + 1) % 5], others.length());
        }
        fault("a line that is there already, without an end", "may 1;may", 6);
    }

    private static void faultsAtTheEnds() {
        fault("the first byte", "x", 0);
        fault("the first byte", ";", 0);
        fault("the last byte", "good 1" + " ".repeat(293) + "!", 299);
        fault("the end of 300 bytes, if more must come", "good 1" + " ".repeat(294), 300);
        fault("the end behind blanks", "good 1 or   ", 12);
        fault("a WORD is as long as it goes", "good namex;", 5);
        fault("a WORD that begins another", "goo", 0);
        fault("the first byte of a WORD", "good 1; goods", 8);
        fault("another blank", "good\t1;", 4);
        fault("great letters", "good NAME;", 5);
        fault("a byte of 255", "good " + (char) 255, 5);
        fault("a byte behind z", "good name{;", 9);
        fault("a byte ahead of a", "good name`;", 9);
        fault("a byte ahead of 0", "good 1/;", 6);
        fault("a byte behind 9", "good 1:;", 6);
    }

    /** Each beginning of a TEXT that is no TEXT itself has its FAULT at the end, or at a WORD or NUMBER cut short. */
    private static void everyPrefix() {
        String text = "good not (name and not sure < 12 + 3) or two; years 7; enough first - second > 1;";
        for (int n = 0; n <= text.length(); n++) {
            String part = text.substring(0, n);
            int lines = part.length() - part.replace(";", "").length();
            boolean whole = part.isBlank() || part.endsWith(";") || part.endsWith("; ");
            int from = lastWord(part);
            boolean cut = !whole && from < n && !" good not name and sure or two years enough first second ".contains(" " + part.substring(from) + " ");
            reads("the first " + n + " bytes", part, whole ? lines : -100 - (cut ? from : n));
        }
    }

    /** Where the row of letters begins that ends a text; its end, if it ends with something else. */
    private static int lastWord(String text) {
        int from = text.length();
        while (from > 0 && Character.isLetter(text.charAt(from - 1))) {
            from--;
        }
        return from;
    }

    /**
     * Every byte, and every WORD, at every place of a TEXT. What goes on there: L a line, N a NUMBER, T a TERM, O a ONE,
     * o one but for another parenthesis, S a SIGN, P + or -, A and or or, C the end of a parenthesis, E that of the line.
     */
    private static void everythingAtEveryPlace() {
        String[][] places = {
            {"", "L"}, {"  ", "L"}, {"years ", "N"}, {"years 5 ", "E"}, {"years 5;", "L"}, {"LINE 1 ; ", "L"},
            {"LINE ", "O"}, {"LINE not ", "O"}, {"LINE not not ", "O"}, {"LINE (", "O"}, {"LINE not (((( ", "O"}, {"LINE (((((", "o"},
            {"LINE (((((not ", "o"}, {"LINE (((((1 or ", "o"}, {"LINE (((((1 and ", "o"}, {"LINE (((((1) and ", "O"},
            {"LINE FACT ", "SPAE"}, {"LINE 1 ", "SPAE"}, {"LINE 1 + 2 ", "SPAE"}, {"LINE 1 - FACT + 3 ", "SPAE"},
            {"LINE not 1 ", "SPAE"}, {"LINE 1 or 2 ", "SPAE"}, {"LINE 1 < 2 and 3 ", "SPAE"}, {"LINE (1) or 2 - 3 ", "SPAE"},
            {"LINE 1 + ", "T"}, {"LINE 1 - ", "T"}, {"LINE (1 + 2 - ", "T"}, {"LINE 1 < ", "T"}, {"LINE 1 = ", "T"}, {"LINE 1 > ", "T"},
            {"LINE 1 < 2 + ", "T"}, {"LINE (FACT = FACT - ", "T"},
            {"LINE 1 < 2 ", "PAE"}, {"LINE 1 = FACT ", "PAE"}, {"LINE 1 > 2 ", "PAE"}, {"LINE 1 + 2 < 3 - 4 ", "PAE"},
            {"LINE (1) and 1 < 2 ", "PAE"}, {"LINE not 1 < 2 ", "PAE"},
            {"LINE (1 ", "SPAC"}, {"LINE (FACT ", "SPAC"}, {"LINE (((((1 ", "SPAC"}, {"LINE (1) or (2 ", "SPAC"}, {"LINE (not 1 + 2 ", "SPAC"},
            {"LINE (1 < 2 ", "PAC"}, {"LINE ((1) and 1 < 2 ", "PAC"}, {"LINE (((((1 = 2 - 3 ", "PAC"},
            {"LINE (1) ", "AE"}, {"LINE not (1) ", "AE"}, {"LINE (((((1))))) ", "AE"}, {"LINE 1 or (2) ", "AE"}, {"LINE ((1) or (2)) ", "AE"},
            {"LINE ((1) ", "AC"}, {"LINE (((((1)))) ", "AC"}, {"LINE (1 or (2) ", "AC"}, {"LINE ((1) or (2) ", "AC"},
            {"LINE 1 or ", "O"}, {"LINE 1 and ", "O"}, {"LINE (1) or ", "O"}, {"LINE 1 < 2 and ", "O"}, {"LINE (1 or ", "O"},
        };
        String[] lines = {"good", "enough", "recall", "may"};
        String[] facts = {"name sure father ward gate two ready", "total first second tribes", "yes total", "days years"};
        for (int i = 0; i < 4; i++) {
            for (String[] place : places) {
                String text = place[0].replace("LINE", lines[i]).replace("FACT", facts[i].split(" ")[0]);
                everyByte(text, place[1]);
                everyWord(text, place[1], " " + facts[i] + " ");
                // No blank is needed ahead of anything that doesn't make a WORD or NUMBER longer.
                everyByte(text.stripTrailing(), place[1]);
                everyWord(text.stripTrailing(), place[1], " " + facts[i] + " ");
            }
        }
    }

    /** Whether that sign goes on with the WORD or NUMBER at the end of a text. */
    private static boolean goesOnAs(String text, char sign) {
        char last = text.isEmpty() ? ' ' : text.charAt(text.length() - 1);
        return last >= 'a' && last <= 'z' && sign >= 'a' && sign <= 'z' || last >= '0' && last <= '9' && sign >= '0' && sign <= '9';
    }

    private static boolean may(String what, String... anyOf) {
        for (String one : anyOf) {
            if (what.contains(one)) {
                return true;
            }
        }
        return false;
    }

    private static void everyByte(String text, String what) {
        for (int b = 0; b < 256; b++) {
            char sign = (char) b;
            if (goesOnAs(text, sign)) {
                continue;
            }
            boolean goesOn = sign == ' ' || sign == '(' && may(what, "O") || sign == ')' && may(what, "C") || sign == ';' && may(what, "E")
                || "<=>".indexOf(sign) >= 0 && may(what, "S") || "+-".indexOf(sign) >= 0 && may(what, "P")
                || sign >= '0' && sign <= '9' && may(what, "N", "T", "O", "o");
            boolean whole = sign == ';' && may(what, "E") || sign == ' ' && may(what, "L");
            String told = text + sign;
            int ended = told.length() - told.replace(";", "").length();
            answers(told, whole ? ended : -100 - (goesOn ? told.length() : text.length()));
        }
    }

    private static void everyWord(String text, String what, String facts) {
        String all = "good enough recall may years and or not name sure father ward gate two ready total first second tribes yes days zzz";
        for (String word : all.split(" ")) {
            if (goesOnAs(text, word.charAt(0))) {
                continue;
            }
            boolean line = "good enough recall may years".contains(word) && !text.contains(word);
            boolean goesOn = line && may(what, "L") || word.equals("not") && may(what, "O", "o")
                || (word.equals("and") || word.equals("or")) && may(what, "A") || facts.contains(" " + word + " ") && may(what, "T", "O", "o");
            answers(text + word, -100 - (goesOn ? text.length() + word.length() : text.length()));
        }
    }

    private static void answers(String text, int want) {
        SherdCity c = new SherdCity();
        edge.is("of: " + text, Due.read(c, 0, text), want);
    }

    /** What was read ahead of a TEXT, right or with a FAULT, doesn't matter for it. */
    private static void oneBehindAnother() {
        String[] before = {"", "good", "good (((((", "good not", "good (not (1 + 2", "good not not", "good 1 <", "good 1 < 2 <", "good 1 or", "years", "years 5", "years 51;",
            "good 1; good 1;", "enough 1 + (", "good namexx", "good 12345", "recall yes and (yes or (total", "good 1; enough (2)); may 1;",
            "good name; enough 1; recall 1; may 1; years 50;", "xxxxxxxxxxxxxxxxxxxxxxxxxxxxxx", "999999999999999999999999999"};
        for (String first : before) {
            Scene read = Scenes.NEW.then(c -> Due.read(c, 1, first));
            follows(first, read, "", 0);
            follows(first, read, "goo", -100);
            follows(first, read, "good", -104);
            follows(first, read, "good name", -109);
            follows(first, read, "years 9", -107);
            follows(first, read, "good (((((1)))));", 1);
            follows(first, read, "good ((((((1))))));", -110);
            follows(first, read, "good 1 < 2; years 4;", 2);
            follows(first, read, "1", -100);
            Scene found = read.then(c -> Due.sherd(c, "abc", 0));
            for (String one : new String[] {"1", "not 0", "1 or 0", "(1)", "0 < 1"}) {
                Scene good = found.then(c -> Due.read(c, 2, "good " + one + ";")).then(c -> c.force(2));
                edge.answers("behind " + first + " it is true: " + one, good, c -> c.sherdOf(0, 11), 1);
            }
            Scene right = read.then(c -> Due.read(c, 2, "years 4;")).then(c -> c.force(2));
            edge.tells("and nothing else is told behind: " + first, right.city(), SherdCity::law, 4, 0, 0, 0, 0);
        }
        SherdCity c = Scenes.strangers(1).city();
        Due.sherd(c, "aaa", 0);
        for (int i = 0; i < 8; i++) {
            edge.is("a long one each time", Due.read(c, i % 4, "good 0" + "+1".repeat(146) + ";"), 1);
            c.force(i % 4);
            edge.is("it is true", c.sherdOf(0, 11), 1);
            edge.is("another long one", Due.read(c, i % 4, "good 0" + "or 0".repeat(73) + ";"), 1);
            edge.is("it is not", c.sherdOf(0, 11), 0);
        }
    }

    private static void follows(String first, Scene read, String text, int want) {
        edge.answers("behind " + first + ": " + text, read.then(c -> Due.feed(c, text)), c -> c.read(2), want);
    }

    private static void factsOfOtherLines() {
        String[] lines = {"good", "enough", "recall", "may"};
        String[] facts = {"name", "sure", "father", "ward", "gate", "two", "ready", "total", "first", "second", "tribes", "yes", "days",
            "years"};
        String[] known = {" name sure father ward gate two ready ", " total first second tribes ", " yes total ", " days years "};
        for (int i = 0; i < 4; i++) {
            for (String fact : facts) {
                boolean has = known[i].contains(" " + fact + " ");
                reads("FACTS of " + lines[i], lines[i] + " 1 + " + fact + ";", has ? 1 : -100 - lines[i].length() - 5);
            }
            fault("a line's WORD is no FACT", lines[i] + " good;", lines[i].length() + 1);
        }
    }

    /** Each FACT of good is 0 or 1, whatever a SHERD has: any WARD, GATE, FATHER and second NAME. */
    private static void factsOfSherds() {
        Scene city = Scenes.NEW.then(c -> {
            for (int i = 0; i < 8; i++) {
                c.ward(i % 5, 0);
            }
            Scenes.man(c, 7, 0, "abc", "pa");
            Scenes.man(c, 7, 0, "xyz", "pa");
            Scenes.man(c, 7, 0, "xyz", "pa");
        });
        for (int ward = -1; ward < 8; ward++) {
            int w = ward;
            fact("ward", city.then(c -> c.sherd(1, 0, w, -1, 0, 0)), ward >= 0);
            fact("gate", city.then(c -> c.sherd(1, 0, w, -1, 0, 0)), false);
        }
        for (int gate = -1; gate < 5; gate++) {
            int g = gate;
            fact("gate", city.then(c -> c.sherd(1, 0, -1, g, 0, 0)), gate >= 0);
            fact("ward", city.then(c -> c.sherd(1, 0, -1, g, 0, 0)), false);
        }
        for (int name : new int[] {0, 1, 26, 28, 387420488}) {
            fact("father", city.then(c -> c.sherd(1, name, -1, -1, 0, 0)), name != 0);
            fact("father", city.then(c -> c.sherd(1, 0, -1, -1, name, 0)), false);
            fact("two", city.then(c -> c.sherd(1, 0, -1, -1, name, 0)), name != 0);
            fact("two", city.then(c -> c.sherd(1, name, -1, -1, 0, 0)), false);
        }
        for (int how : new int[] {0, 1, 9999, 10000, 10001, 19999}) {
            fact("ready", city.then(c -> c.sherd(1, 0, -1, -1, 0, how)), how > 9999);
        }
        String[] names = {"abc", "abd", "xyz", "xy", "ab", "mmm"};
        for (int i = 0; i < names.length; i++) {
            String name = names[i];
            fact("name", city.then(c -> Due.sherd(c, name, 0)), i < 5);
            fact("sure", city.then(c -> Due.sherd(c, name, 0)), i == 0);
        }
    }

    private static void fact(String fact, Scene scene, boolean has) {
        int is = has ? 1 : 0;
        edge.answers(fact, ruled(scene, "good " + fact + " = 1;"), c -> c.sherdOf(0, 11), is);
        edge.answers("not " + fact, ruled(scene, "good " + fact + " = 0;"), c -> c.sherdOf(0, 11), 1 - is);
        edge.answers(fact + " alone", ruled(scene, "good " + fact + ";"), c -> c.sherdOf(0, 11), is);
    }

    /** FACTS that are numbers have just those, and a SUM is true if it isn't 0, also below it. */
    private static void numbersAreTrue() {
        Scene away = Scenes.strangers(2).then(c -> Due.sherd(c, "bbb", 0)).then(SherdCity::send);
        int[][] votes = {{0, 0}, {0, 1}, {0, 9999}, {1, 1}, {4, 9}, {5, 9}, {9998, 9999}, {9999, 9999}, {5000, 9999}, {4999, 9999}};
        for (int[] v : votes) {
            int yes = v[0];
            int total = v[1];
            edge.answers("yes", ruled(away, "recall yes = " + yes + ";"), c -> c.recall(1, yes, total), 1);
            edge.answers("total", ruled(away, "recall total = " + total + ";"), c -> c.recall(1, yes, total), 1);
            edge.answers("yes less total", ruled(away, "recall yes - total;"), c -> c.recall(1, yes, total), yes == total ? 0 : 1);
            edge.answers("yes < total", ruled(away, "recall yes < total;"), c -> c.recall(1, yes, total), yes < total ? 1 : 0);
            edge.answers("without it: yes + yes > total", away, c -> c.recall(1, yes, total), 2 * yes > total ? 1 : 0);
        }
    }

    private static void promise25() {
        edge.takes("-9: there is no such LAW", Scenes.FULL, -1, 3, -9, SherdCity::force);
        edge.refusesOutside("-9: there is no such LAW", Scenes.NEW, -1, 3, -9, SherdCity::force);
        for (int i = 0; i < 4; i++) {
            int law = i;
            edge.refused("-8: it was never read", Scenes.NEW, c -> c.force(law), -8);
        }
        edge.refused("-8: it was never read, others were", Scenes.BUSY, c -> c.force(1), -8);
        edge.answers("-1 is taken without any LAW read", Scenes.NEW, c -> c.force(-1), -1);
        edge.answers("which was", Scenes.BUSY, c -> c.force(0), 2);
        edge.answers("which was: the same", Scenes.BUSY, c -> c.force(2), 2);
        edge.answers("which was: -1", Scenes.BUSY.then(c -> c.force(-1)), c -> c.force(0), -1);
        edge.answers("a LAW of an empty TEXT was read", Scenes.NEW.then(c -> c.read(3)), c -> c.force(3), -1);
    }

    private static void promise26() {
        edge.takes("another what", Scenes.BUSY, 0, 4, BAD, SherdCity::law);
        edge.takes("another what, of an empty TEXT", Scenes.NEW, 0, 4, BAD, SherdCity::law);
        edge.tells("years 10 without", Scenes.NEW.city(), SherdCity::law, 10, 0, 0, 0, 0);
        edge.tells("of LAW 2", Scenes.BUSY.city(), SherdCity::law, 1, 0, 0, 1, 1);
        edge.tells("of LAW 0", Scenes.BUSY.then(c -> c.force(0)).city(), SherdCity::law, 2, 1, 1, 0, 0);
        edge.tells("of -1", Scenes.BUSY.then(c -> c.force(-1)).city(), SherdCity::law, 10, 0, 0, 0, 0);
        edge.tells("read anew while it is THE LAW", Scenes.BUSY.then(c -> c.read(2)).city(), SherdCity::law, 7, 0, 0, 0, 0);
    }

    /** Each line that isn't told is as in an empty TEXT, whatever the others tell. */
    private static void withoutLines() {
        String[] laws = {"", "enough first > 0; recall yes + yes > total; may 0; years 10;", "good name; recall yes + yes > total; may 0;",
            "good name; enough first > 0; years 10;", "good name;", "years 10;", "may 0; enough first > 0;"};
        Scene found = Scenes.strangers(2).then(c -> Due.sherd(c, "bbb", 0)).then(c -> Due.sherd(c, "zzz", 0));
        Scene first = ruled(found, laws[0]);
        for (String law : laws) {
            Scene scene = ruled(found, law);
            edge.answers("good is: name, in: " + law, scene, c -> c.sherdOf(0, 11), 1);
            edge.answers("good is: name, in: " + law, scene, c -> c.sherdOf(1, 11), 0);
            edge.answers("enough: first > 0, in: " + law, scene, c -> c.count(0, 5), 1);
            Scene sent = scene.then(SherdCity::send);
            edge.answers("years 10, in: " + law, sent, c -> c.of(1, 6), 3599);
            edge.answers("recall: yes + yes > total, 1 of 2, in: " + law, sent, c -> c.recall(1, 1, 2), 0);
            edge.answers("recall: yes + yes > total, 2 of 3, in: " + law, sent, c -> c.recall(1, 2, 3), 1);
            edge.answers("recall: yes + yes > total, 0 of 0, in: " + law, sent, c -> c.recall(1, 0, 0), 0);
            edge.answers("recall: yes + yes > total, 1 of 3, in: " + law, sent, c -> c.recall(1, 1, 3), 0);
            edge.answers("recall: yes + yes > total, 5000 of 9999, in: " + law, sent, c -> c.recall(1, 5000, 9999), 1);
            edge.answers("may: 0, in: " + law, sent, c -> c.may(1, 0), 0);
            edge.answers("may: 0, in: " + law, sent, c -> c.may(1, 3599), 0);
        }
        edge.answers("not enough without any", first.then(c -> c.thrown(0)), c -> c.count(0, 5), SherdCity.NONE);
    }

    private static Scene ruled(Scene scene, String law) {
        return scene.then(c -> Due.rule(c, law));
    }
}
