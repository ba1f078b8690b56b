import java.lang.reflect.Method;
import java.util.ArrayList;
import java.util.Arrays;
import java.util.List;
import java.util.Random;

/** All promises: runs of 512 calls at random, each answered as PlainCity answers it. */
public final class RunsTest {
    private static final int RUNS = 150;
    private static final int[] EDGES = {Integer.MIN_VALUE, Integer.MAX_VALUE, -2, -1, 0, 1, 9999, 10000, 400, 401};
    private static final String[] NAMES = {"a", "b", "ab", "abc", "abd", "abcd", "bc", "xyz", "xy", "zzzzzz", "pa", "pb"};

    public static void main(String[] args) throws Exception {
        Due due = new Due();
        long seed = args.length > 0 ? Long.parseLong(args[0]) : 1;
        int runs = args.length > 1 ? Integer.parseInt(args[1]) : RUNS;
        for (int run = 0; run < runs; run++) {
            new RunsTest(new Random(seed * 100000 + run), run % 10).run(due, "run " + run);
        }
        due.end();
    }

    private final Random random;
    /** Takes any numbers at all. */
    private final boolean wild;
    /** Begins with as much of everything as there may be. */
    private final boolean crowded;
    private final SherdCity city = new SherdCity();
    private final PlainCity plain = new PlainCity();
    private final List<String> calls = new ArrayList<>();

    private RunsTest(Random random, int sort) {
        this.random = random;
        this.wild = sort == 9;
        this.crowded = sort == 8;
    }

    private void run(Due due, String about) throws Exception {
        Method[] all = SherdCity.class.getDeclaredMethods();
        List<Method> face = new ArrayList<>();
        for (Method m : all) {
            if (java.lang.reflect.Modifier.isPublic(m.getModifiers())) {
                face.add(m);
            }
        }
        face.sort((x, y) -> x.getName().compareTo(y.getName()));
        for (int i = 0; i < 512; i++) {
            boolean right;
            if (crowded && i < 170) {
                right = crowd(i);
            } else if (i < 60 && !wild && !crowded) {
                right = settle(i);
            } else if (random.nextInt(25) == 0) {
                right = law();
            } else if (random.nextInt(20) == 0) {
                right = host();
            } else {
                Method m = face.get(random.nextInt(face.size()));
                right = call(m.getName(), arguments(m));
            }
            if (!right) {
                due.is(about + ": " + calls.subList(Math.max(0, calls.size() - 12), calls.size()), 0, 1);
                return;
            }
        }
        due.is(about, 1, 1);
    }

    private boolean call(String name, Object... args) throws Exception {
        Class<?>[] types = new Class<?>[args.length];
        for (int i = 0; i < args.length; i++) {
            Object a = args[i];
            types[i] = a instanceof Long ? long.class : a instanceof Boolean ? boolean.class : int.class;
        }
        Method of = SherdCity.class.getDeclaredMethod(name, types);
        Method by = PlainCity.class.getDeclaredMethod(name, types);
        int got = (Integer) of.invoke(city, args);
        int want = (Integer) by.invoke(plain, args);
        calls.add(name + Arrays.toString(args) + "=" + got + (got == want ? "" : ", due is " + want));
        return got == want;
    }

    private int name() {
        return Due.name(NAMES[random.nextInt(NAMES.length)]);
    }

    /** A city with something in it. */
    private boolean settle(int i) throws Exception {
        if (i < 4) {
            return call("ward", random.nextInt(5), random.nextInt(400));
        }
        if (i < 14) {
            return call("man", random.nextInt(4), random.nextInt(5) - 1, name(), Due.name("p" + "ab".charAt(random.nextInt(2))));
        }
        if (i < 40) {
            return call("fear", random.nextInt(10), random.nextInt(10), random.nextInt(10));
        }
        if (i < 44) {
            return call("style", random.nextInt(10), random.nextInt(10000), random.nextInt(4));
        }
        if (i < 48) {
            return call("bargain", random.nextInt(4), random.nextInt(10), 0, random.nextInt(60));
        }
        if (i < 52) {
            return call("word", random.nextInt(10), random.nextInt(11) - 5, random.nextInt(10));
        }
        if (i == 52) {
            return call("vote");
        }
        return call("sherd", name(), random.nextInt(2) * name(), random.nextInt(5) - 1, random.nextInt(6) - 1,
            random.nextInt(4) / 3 * name(), random.nextInt(20) * 1000 + random.nextInt(10));
    }

    private boolean crowd(int i) throws Exception {
        if (i < 8) {
            return call("ward", random.nextInt(5), random.nextInt(320));
        }
        if (i < 24) {
            return call("man", random.nextInt(8), random.nextInt(7) - 1, name(), Due.name("p" + "ab".charAt(random.nextInt(2))));
        }
        if (i < 74) {
            return call("fear", random.nextInt(16), random.nextInt(16), random.nextInt(10));
        }
        if (i < 90) {
            return call("style", i - 74, random.nextInt(10000), random.nextInt(4));
        }
        if (i < 98) {
            return call("bargain", random.nextInt(6), random.nextInt(16), 0, random.nextInt(60));
        }
        if (i < 106) {
            return call("word", random.nextInt(16), random.nextInt(11) - 5, random.nextInt(16));
        }
        if (i < 116) {
            return i == 115 ? call("keep") : i == 106 ? call("days", 1 + random.nextInt(4)) : law();
        }
        if (i < 156) {
            return call("sherd", name(), random.nextInt(2) * name(), random.nextInt(9) - 1, random.nextInt(6) - 1,
                random.nextInt(4) / 3 * name(), random.nextInt(20) * 1000 + random.nextInt(10));
        }
        return i < 168 ? call("heap", random.nextInt(40)) : i == 168 ? call("prove", random.nextInt(9)) : call("keep");
    }

    /** A thing acts, or a sherd comes from a sheet. */
    private boolean host() throws Exception {
        int at = random.nextInt(4);
        if (random.nextInt(4) == 0) {
            boolean right = call("sheet", at, 2, 7);
            int[] told = {name(), random.nextInt(2) * name(), random.nextInt(5) - 1, random.nextInt(6) - 1, 0, random.nextInt(20000)};
            for (int i = 0; i < 6; i++) {
                right &= call("put", at, i + 1, told[i]);
            }
            return right && call("comesFrom", at, random.nextInt(2));
        }
        boolean right = call("shelf", at, random.nextInt(3), random.nextInt(8));
        right &= call("act", at, random.nextInt(4), random.nextInt(5) == 0 ? random.nextInt() : random.nextInt(100));
        for (int i = 0; i < 8; i++) {
            right &= call("trace", i);
        }
        return right && call("taken", at, random.nextInt(7));
    }

    private boolean law() throws Exception {
        StringBuilder text = new StringBuilder();
        for (int lines = random.nextInt(5); lines > 0; lines--) {
            String[] names = {"good", "enough", "recall", "may", "years"};
            int line = random.nextInt(5);
            text.append(names[line]).append(' ');
            text.append(line == 4 ? "" + random.nextInt(55) : cond(line, random.nextInt(3))).append(";");
        }
        if (random.nextInt(4) == 0 && text.length() > 0) {
            text.setCharAt(random.nextInt(text.length()), "a1(); +-<=>x\n".charAt(random.nextInt(13)));
        }
        if (random.nextInt(8) == 0 && text.length() > 0) {
            text.setLength(random.nextInt(text.length()));
        }
        boolean right = true;
        for (int at = 0; at < text.length(); at += 8) {
            int n = Math.min(8, text.length() - at);
            long eight = 0;
            for (int i = n - 1; i >= 0; i--) {
                eight = eight << 8 | text.charAt(at + i);
            }
            right &= call("feed", eight, n);
        }
        int law = random.nextInt(4);
        right &= call("read", law);
        return right && (random.nextInt(2) == 0 || call("force", law));
    }

    private String cond(int line, int depth) {
        switch (depth == 0 ? 0 : random.nextInt(5)) {
            case 1: return cond(line, depth - 1) + " and " + cond(line, depth - 1);
            case 2: return cond(line, depth - 1) + " or " + cond(line, depth - 1);
            case 3: return "(" + cond(line, depth - 1) + ")";
            case 4: return "not " + cond(line, depth - 1);
            default: return sum(line) + (random.nextBoolean() ? "" : "<=>".charAt(random.nextInt(3)) + sum(line));
        }
    }

    private String sum(int line) {
        String[][] facts = {
            {"name", "sure", "father", "ward", "gate", "two", "ready"}, {"total", "first", "second", "tribes"}, {"yes", "total"},
            {"days", "years"},
        };
        String[] known = facts[line];
        String t = random.nextInt(3) == 0 ? "" + random.nextInt(5) : known[random.nextInt(known.length)];
        return random.nextInt(3) > 0 ? t : t + (random.nextBoolean() ? "+" : " - ") + sum(line);
    }

    private Object[] arguments(Method m) {
        Class<?>[] types = m.getParameterTypes();
        Object[] args = new Object[types.length];
        for (int i = 0; i < types.length; i++) {
            args[i] = types[i] == long.class ? (Object) random.nextLong()
                : types[i] == boolean.class ? (Object) random.nextBoolean() : (Object) number();
        }
        if (wild || random.nextInt(6) == 0) {
            return args;
        }
        likely(m.getName(), args);
        return args;
    }

    private int number() {
        switch (random.nextInt(8)) {
            case 0: return EDGES[random.nextInt(EDGES.length)];
            case 1: return wild ? random.nextInt() : random.nextInt(60);
            case 2: return name();
            case 3: return random.nextInt(20) - 2;
            default: return random.nextInt(6) - 1;
        }
    }

    /** Makes the numbers of a call such that it isn't refused as a rule. */
    private void likely(String name, Object[] args) {
        int day = random.nextInt(Math.min(9999, city.many(0) + 20));
        int man = random.nextInt(crowded ? 16 : 12);
        switch (name) {
            case "days": args[0] = 1 + random.nextInt(random.nextInt(10) == 0 ? 400 : 4); break;
            case "man": args[2] = name(); args[3] = name(); break;
            case "sherd": args[0] = name(); args[1] = 0; args[4] = 0; args[5] = random.nextInt(20000); break;
            case "cast": case "comes": case "may": case "turn": case "beside": args[0] = man; args[1] = day; break;
            case "prove": case "judge": case "best": case "keptBy": args[0] = day; break;
            case "recall": args[0] = man; args[2] = random.nextInt(9); args[1] = random.nextInt((Integer) args[2] + 1); break;
            case "harvest": args[0] = random.nextInt(4); args[1] = day; args[2] = day + random.nextInt(9); break;
            case "bargain": args[1] = man; args[2] = day; args[3] = day + random.nextInt(99); break;
            case "count": args[0] = random.nextInt(city.many(0) + 1); args[1] = random.nextInt(7); break;
            case "counted": args[0] = man; args[1] = random.nextInt(city.many(0) + 1); break;
            case "broken": args[1] = random.nextInt(city.many(0) + 1); break;
            case "sherdOf": args[0] = random.nextInt(40); args[1] = random.nextInt(12); break;
            case "apart": args[0] = name(); args[1] = name(); break;
            case "hands": args[0] = random.nextInt(20); break;
            case "many": args[0] = random.nextInt(14); break;
            case "rule": args[0] = random.nextInt(4); args[1] = random.nextInt((Integer) args[0] == 0 ? 1201 : 9); break;
            case "fear": case "dread": args[0] = man; args[1] = random.nextInt(12); args[2] = random.nextInt(10); break;
            case "heard": args[0] = man; args[1] = random.nextInt(8); break;
            case "style": args[0] = man; args[1] = random.nextInt(10000); args[2] = random.nextInt(4); break;
            case "of": args[0] = man; args[1] = random.nextInt(8); break;
            case "tally": args[0] = random.nextInt(2); args[1] = random.nextInt(5); args[2] = random.nextInt(9); break;
            case "tallies": args[0] = random.nextInt(8); break;
            case "row": case "alterRow": args[0] = man; args[1] = random.nextInt(2); break;
            case "bound": args[0] = random.nextInt(5); args[1] = day; break;
            case "heap": args[0] = random.nextInt(30); break;
            case "clear": break;
            case "sheet": args[0] = random.nextInt(4); args[1] = random.nextInt(6) - 1; args[2] = random.nextInt(12); break;
            case "put": args[0] = random.nextInt(4); args[1] = random.nextInt(12); break;
            case "item": case "comesFrom": args[0] = random.nextInt(4); args[1] = random.nextInt(5); break;
            case "shelf": args[0] = random.nextInt(4); args[1] = random.nextInt(5); args[2] = random.nextInt(6); break;
            case "act": args[0] = random.nextInt(4); args[1] = random.nextInt(4); break;
            case "taken": args[0] = random.nextInt(4); args[1] = random.nextInt(7) + random.nextInt(2) * 8; break;
            case "trace": args[0] = random.nextInt(6); break;
            case "thrown": args[0] = random.nextInt(200); break;
            default: break;
        }
    }
}
