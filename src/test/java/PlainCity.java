import java.util.ArrayList;
import java.util.Arrays;
import java.util.HashMap;
import java.util.List;
import java.util.Map;
import java.util.TreeMap;
import java.util.TreeSet;
import java.util.function.IntSupplier;
import java.util.function.ToIntFunction;

/**
 * The document once more, told with the whole of Java's library and with nothing reckoned ahead:
 * the class is compared with it on runs of calls taken at random.
 */
final class PlainCity {
    static final int BAD = -1, FULL = -2, NONE = -3, STATE = -4;

    record Ward(int tribe, int minutes, int from, int to) { }

    record Man(int ward, int club, int name, int father, int hand, int how, Sent sent) { }

    record Sent(int from, int to, boolean recalled) { }

    record Word(int about, int weight, Map<Integer, Integer> heard) { }

    record Bargain(int club, int man, int from, int to) { }

    record Sherd(int name, int father, int ward, int gate, int second, boolean ready, int hand, int found, int thrown) { }

    /** All that is kept; every part of it is replaced, never changed, but for the lists and maps, which are copied. */
    static final class Kept {
        int today;
        TreeSet<Integer> wet = new TreeSet<>();
        List<Ward> wards = new ArrayList<>();
        List<Man> men = new ArrayList<>();
        Map<List<Integer>, Integer> fears = new HashMap<>();
        List<Word> words = new ArrayList<>();
        List<Bargain> bargains = new ArrayList<>();
        List<Sherd> sherds = new ArrayList<>();
        Map<Integer, String> laws = new TreeMap<>();
        int force = -1;
        int[] rules = {300, 3, 1, 4};
        int[][] tallies = new int[2][5];
        List<Integer> heap = new ArrayList<>();

        Kept copy() {
            Kept k = new Kept();
            k.today = today;
            k.wet = new TreeSet<>(wet);
            k.wards = new ArrayList<>(wards);
            k.men = new ArrayList<>(men);
            k.fears = new HashMap<>(fears);
            for (Word w : words) {
                k.words.add(new Word(w.about, w.weight, new HashMap<>(w.heard)));
            }
            k.bargains = new ArrayList<>(bargains);
            k.sherds = new ArrayList<>(sherds);
            k.laws = new TreeMap<>(laws);
            k.force = force;
            k.rules = rules.clone();
            k.tallies = new int[][] {tallies[0].clone(), tallies[1].clone()};
            k.heap = new ArrayList<>(heap);
            return k;
        }
    }

    private Kept s = new Kept();
    private Kept kept;
    private String tape = "";
    private final List<int[]> rows = new ArrayList<>();
    private final Object[] sheets = new Object[4];
    private final Object[] shelves = new Object[4];
    private final List<Integer> trace = new ArrayList<>();

    private static boolean in(int v, int low, int high) {
        return low <= v && v <= high;
    }

    private static boolean day(int d) {
        return in(d, 0, 9999);
    }

    private static boolean has(List<?> list, int i) {
        return in(i, 0, list.size() - 1);
    }

    /** The letters of a NAME; null if it is none. */
    static String letters(int name) {
        String t = "";
        for (int n = name; n > 0; n /= 27) {
            if (n % 27 == 0) {
                return null;
            }
            t = (char) ('a' + n % 27 - 1) + t;
        }
        return t.isEmpty() || t.length() > 6 ? null : t;
    }

    private static boolean name(int n) {
        return letters(n) != null;
    }

    int days(int n) {
        if (!in(n, 1, 400)) {
            return BAD;
        }
        if (s.today + n > 9999) {
            return STATE;
        }
        for (int i = 0; i < n; i++) {
            for (Word w : s.words) {
                for (int from : new ArrayList<>(w.heard.keySet())) {
                    if (w.heard.get(from) > s.today) {
                        continue;
                    }
                    for (int to = 0; to < s.men.size(); to++) {
                        boolean ward = s.men.get(to).ward == s.men.get(from).ward;
                        boolean club = s.men.get(to).club == s.men.get(from).club && s.men.get(to).club != -1;
                        if (ward || club && s.today % 3 == 0) {
                            w.heard.putIfAbsent(to, s.today + 1);
                        }
                    }
                }
            }
            s.today++;
        }
        return s.today;
    }

    int wet(int day) {
        if (!day(day)) {
            return BAD;
        }
        if (s.wet.contains(day)) {
            return STATE;
        }
        if (s.wet.size() == 20) {
            return FULL;
        }
        s.wet.add(day);
        return s.wet.size();
    }

    int ward(int tribe, int minutes) {
        if (!in(tribe, 0, 4) || !in(minutes, 0, 600)) {
            return BAD;
        }
        if (s.wards.size() == 8) {
            return FULL;
        }
        s.wards.add(new Ward(tribe, minutes, 1, 0));
        return s.wards.size() - 1;
    }

    int harvest(int ward, int first, int last) {
        if (!has(s.wards, ward) || !day(first) || !day(last) || last < first) {
            return BAD;
        }
        Ward w = s.wards.get(ward);
        s.wards.set(ward, new Ward(w.tribe, w.minutes, first, last));
        return 1;
    }

    int man(int ward, int club, int name, int father) {
        if (!has(s.wards, ward) || !in(club, -1, 5) || !name(name) || !name(father)) {
            return BAD;
        }
        if (s.men.size() == 16) {
            return FULL;
        }
        s.men.add(new Man(ward, club, name, father, 0, 0, null));
        return s.men.size() - 1;
    }

    int style(int man, int hand, int how) {
        if (!has(s.men, man) || !in(hand, 0, 9999) || !in(how, 0, 3)) {
            return BAD;
        }
        Man m = s.men.get(man);
        s.men.set(man, new Man(m.ward, m.club, m.name, m.father, hand, how, m.sent));
        return 1;
    }

    int fear(int man, int of, int v) {
        if (!has(s.men, man) || !has(s.men, of) || man == of || !in(v, 0, 9)) {
            return BAD;
        }
        Integer was = s.fears.put(List.of(man, of), v);
        return was == null ? 0 : was;
    }

    int word(int about, int weight, int to) {
        if (!has(s.men, about) || !has(s.men, to) || !in(weight, -5, 5)) {
            return BAD;
        }
        if (s.words.size() == 8) {
            return FULL;
        }
        s.words.add(new Word(about, weight, new HashMap<>(Map.of(to, s.today))));
        return s.words.size() - 1;
    }

    int heard(int man, int word) {
        if (!has(s.men, man) || !has(s.words, word)) {
            return BAD;
        }
        return s.words.get(word).heard.getOrDefault(man, NONE);
    }

    int dread(int man, int of, int day) {
        if (!has(s.men, man) || !has(s.men, of) || man == of || !day(day)) {
            return BAD;
        }
        int sum = s.fears.getOrDefault(List.of(man, of), 0);
        for (Word w : s.words) {
            if (w.about == of && w.heard.containsKey(man) && w.heard.get(man) <= day) {
                sum += w.weight;
            }
        }
        return sum < 0 ? 0 : sum > 20 ? 20 : sum;
    }

    int rule(int what, int v) {
        int[] most = {1200, 20, 20, 36};
        if (!in(what, 0, 3) || !in(v, 0, most[what])) {
            return BAD;
        }
        int was = s.rules[what];
        s.rules[what] = v;
        return was;
    }

    int of(int man, int what) {
        if (!has(s.men, man) || !in(what, 0, 7)) {
            return BAD;
        }
        Man m = s.men.get(man);
        int from = m.sent == null ? NONE : m.sent.from;
        int to = m.sent == null ? NONE : m.sent.to;
        int recalled = m.sent != null && m.sent.recalled ? 1 : 0;
        return new int[] {m.ward, m.club == -1 ? NONE : m.club, m.name, m.father, m.hand, from, to, recalled}[what];
    }

    int bargain(int club, int man, int first, int last) {
        if (!in(club, 0, 5) || !has(s.men, man) || !day(first) || !day(last) || last < first) {
            return BAD;
        }
        if (s.bargains.size() == 8) {
            return FULL;
        }
        s.bargains.add(new Bargain(club, man, first, last));
        return s.bargains.size() - 1;
    }

    int bound(int club, int day) {
        if (!in(club, 0, 5) || !day(day)) {
            return BAD;
        }
        int to = NONE;
        for (Bargain b : s.bargains) {
            if (b.club == club && in(day, b.from, b.to)) {
                to = b.man;
            }
        }
        return to;
    }

    private boolean sent(int man, int day) {
        Sent sent = s.men.get(man).sent;
        return sent != null && in(day, sent.from, sent.to);
    }

    int comes(int man, int day) {
        if (!has(s.men, man) || !day(day)) {
            return BAD;
        }
        Ward w = s.wards.get(s.men.get(man).ward);
        int minutes = w.minutes * (s.wet.contains(day) ? 2 : 1);
        return !sent(man, day) && !in(day, w.from, w.to) && minutes <= s.rules[0] ? 1 : 0;
    }

    int cast(int man, int day) {
        if (!has(s.men, man) || !day(day)) {
            return BAD;
        }
        if (comes(man, day) == 0) {
            return STATE;
        }
        List<Integer> others = new ArrayList<>();
        for (int i = 0; i < s.men.size(); i++) {
            if (i != man && !sent(i, day)) {
                others.add(i);
            }
        }
        int x = s.men.get(man).club == -1 ? NONE : bound(s.men.get(man).club, day);
        if (others.contains(x)) {
            boolean breaks = others.stream().anyMatch(y -> y != x && dread(man, y, day) >= dread(man, x, day) + s.rules[1]);
            if (!breaks) {
                return x;
            }
        }
        int greatest = others.stream().mapToInt(y -> dread(man, y, day)).max().orElse(-1);
        if (greatest < s.rules[2]) {
            return NONE;
        }
        return others.stream().filter(y -> dread(man, y, day) == greatest).findFirst().orElse(NONE);
    }

    int sherd(int name, int father, int ward, int gate, int second, int how) {
        boolean names = name(name) && (father == 0 || name(father)) && (second == 0 || name(second));
        if (!names || ward != -1 && !has(s.wards, ward) || !in(gate, -1, 4) || !in(how, 0, 19999)) {
            return BAD;
        }
        if (s.sherds.size() == 40) {
            return FULL;
        }
        s.sherds.add(new Sherd(name, father, ward, gate, second, how > 9999, how % 10000, s.today, -1));
        return s.sherds.size() - 1;
    }

    int vote() {
        List<Sherd> made = new ArrayList<>();
        for (int i = 0; i < s.men.size(); i++) {
            int whom = cast(i, s.today);
            if (whom >= 0) {
                Man writer = s.men.get(i);
                Man m = s.men.get(whom);
                int father = writer.how % 2 == 1 ? m.father : 0;
                int ward = writer.how > 1 ? m.ward : -1;
                int gate = s.wards.get(writer.ward).tribe;
                made.add(new Sherd(m.name, father, ward, gate, 0, false, writer.hand, s.today, -1));
            }
        }
        if (s.sherds.size() + made.size() > 40) {
            return FULL;
        }
        s.sherds.addAll(made);
        return made.size();
    }

    int thrown(int sherd) {
        if (!has(s.sherds, sherd)) {
            return BAD;
        }
        Sherd h = s.sherds.get(sherd);
        if (h.thrown != -1) {
            return STATE;
        }
        Sherd gone = new Sherd(h.name, h.father, h.ward, h.gate, h.second, h.ready, h.hand, h.found, s.today);
        s.sherds.set(sherd, gone);
        return 1;
    }

    private static int far(String a, String b) {
        if (a.isEmpty() || b.isEmpty()) {
            return a.length() + b.length();
        }
        String restA = a.substring(1);
        String restB = b.substring(1);
        if (a.charAt(0) == b.charAt(0)) {
            return far(restA, restB);
        }
        return 1 + Math.min(far(restA, restB), Math.min(far(a, restB), far(restA, b)));
    }

    int apart(int name, int other) {
        return name(name) && name(other) ? far(letters(name), letters(other)) : BAD;
    }

    private TreeSet<Integer> meant(Sherd h) {
        TreeSet<Integer> exactly = new TreeSet<>();
        TreeSet<Integer> fits = new TreeSet<>();
        for (int i = 0; i < s.men.size(); i++) {
            Man m = s.men.get(i);
            if ((h.father == 0 || h.father == m.father) && (h.ward == -1 || h.ward == m.ward)) {
                if (h.name == m.name) {
                    exactly.add(i);
                }
                if (Math.abs(letters(h.name).length() - letters(m.name).length()) <= 1 && apart(h.name, m.name) <= 1) {
                    fits.add(i);
                }
            }
        }
        return exactly.isEmpty() ? fits : exactly;
    }

    private boolean sure(Sherd h) {
        TreeSet<Integer> meant = meant(h);
        return meant.size() == 1 && s.men.get(meant.first()).name == h.name;
    }

    int sherdOf(int sherd, int what) {
        if (!has(s.sherds, sherd) || !in(what, 0, 11)) {
            return BAD;
        }
        Sherd h = s.sherds.get(sherd);
        TreeSet<Integer> meant = meant(h);
        int how = meant.isEmpty() ? 0 : meant.size() > 1 ? 3 : sure(h) ? 1 : 2;
        int bits = meant.stream().mapToInt(i -> 1 << i).sum();
        int ward = h.ward == -1 ? NONE : h.ward;
        int gate = h.gate == -1 ? NONE : h.gate;
        int thrown = h.thrown == -1 ? NONE : h.thrown;
        return new int[] {h.name, h.father, ward, gate, h.second, h.ready ? 1 : 0, h.hand, h.found, thrown, how, bits,
            good(h) ? 1 : 0}[what];
    }

    int feed(long eight, int n) {
        if (!in(n, 1, 8)) {
            return BAD;
        }
        if (tape.length() + n > 300) {
            return FULL;
        }
        for (int i = 0; i < n; i++) {
            tape += (char) (eight >>> 8 * i & 255);
        }
        return tape.length();
    }

    int read(int law) {
        if (!in(law, 0, 3)) {
            return BAD;
        }
        String text = tape;
        tape = "";
        Text t = new Text(text, Map.of());
        try {
            t.all();
        } catch (Fault f) {
            return -100 - t.at;
        }
        s.laws.put(law, text);
        return t.lines.size();
    }

    private String lawText() {
        return s.force == -1 ? "" : s.laws.get(s.force);
    }

    private boolean holds(String text, String line, String without, Map<String, Integer> facts) {
        Text t = new Text(text, facts);
        t.all();
        if (!t.lines.containsKey(line)) {
            t = new Text(line + " " + without + ";", facts);
            t.all();
        }
        return t.lines.get(line) != 0;
    }

    private int years() {
        Text t = new Text(lawText(), Map.of());
        t.all();
        return t.lines.getOrDefault("years", 10);
    }

    private boolean good(Sherd h) {
        Map<String, Integer> facts = new HashMap<>();
        facts.put("name", meant(h).isEmpty() ? 0 : 1);
        facts.put("sure", sure(h) ? 1 : 0);
        facts.put("father", h.father == 0 ? 0 : 1);
        facts.put("ward", h.ward == -1 ? 0 : 1);
        facts.put("gate", h.gate == -1 ? 0 : 1);
        facts.put("two", h.second == 0 ? 0 : 1);
        facts.put("ready", h.ready ? 1 : 0);
        return holds(lawText(), "good", "name", facts);
    }

    int force(int law) {
        if (!in(law, -1, 3)) {
            return -9;
        }
        if (law != -1 && !s.laws.containsKey(law)) {
            return -8;
        }
        int was = s.force;
        s.force = law;
        return was;
    }

    int law(int what) {
        if (!in(what, 0, 4)) {
            return BAD;
        }
        if (what == 0) {
            return years();
        }
        Text t = new Text(lawText(), Map.of());
        t.all();
        return t.lines.containsKey(new String[] {"good", "enough", "recall", "may"}[what - 1]) ? 1 : 0;
    }

    /** (man: the gates of each that counts for him, -1 without one), and how many there are in all. */
    private final class Result {
        final List<List<Integer>> least = new ArrayList<>();
        final int[] most = new int[s.men.size()];
        int total;
        int first = NONE;
        int second;

        Result() {
            for (int i = 0; i < s.men.size(); i++) {
                least.add(new ArrayList<>());
            }
        }

        Result end() {
            for (int i = 0; i < least.size(); i++) {
                if (first == NONE || least.get(i).size() > least.get(first).size()) {
                    first = i;
                }
            }
            for (int i = 0; i < least.size(); i++) {
                if (i != first) {
                    second = Math.max(second, least.get(i).size());
                }
            }
            return this;
        }

        int firsts() {
            return first == NONE ? 0 : least.get(first).size();
        }

        int tribes() {
            return first == NONE ? 0 : (int) least.get(first).stream().filter(g -> g != -1).distinct().count();
        }

        int goes(String text) {
            Map<String, Integer> facts = Map.of("total", total, "first", firsts(), "second", second, "tribes", tribes());
            return firsts() > 0 && holds(text, "enough", "first > 0", facts) ? first : NONE;
        }

        boolean certain() {
            int goes = goes(lawText());
            for (int i = 0; i < most.length && goes != NONE; i++) {
                if (i != goes && most[i] >= firsts()) {
                    return false;
                }
            }
            return goes != NONE;
        }
    }

    private List<Sherd> goodOnes(int k) {
        List<Sherd> list = new ArrayList<>();
        for (Sherd h : s.sherds) {
            if (h.found <= k && !(h.thrown != -1 && h.thrown <= k) && good(h)) {
                list.add(h);
            }
        }
        return list;
    }

    private Result counted(int k) {
        Result r = new Result();
        for (Sherd h : goodOnes(k)) {
            r.total++;
            for (int m : meant(h)) {
                r.most[m]++;
                if (sure(h)) {
                    r.least.get(m).add(h.gate);
                }
            }
        }
        return r.end();
    }

    int count(int k, int what) {
        if (!in(k, 0, s.today) || !in(what, 0, 6)) {
            return BAD;
        }
        Result r = counted(k);
        return new int[] {r.total, r.first, r.firsts(), r.second, r.tribes(), r.goes(lawText()), r.certain() ? 1 : 0}[what];
    }

    int counted(int man, int k, boolean most) {
        if (!has(s.men, man) || !in(k, 0, s.today)) {
            return BAD;
        }
        Result r = counted(k);
        return most ? r.most[man] : r.least.get(man).size();
    }

    int tally(int counter, int gate, int n) {
        if (!in(counter, 0, 1) || !in(gate, 0, 4) || !in(n, 0, 99)) {
            return BAD;
        }
        int was = s.tallies[counter][gate];
        s.tallies[counter][gate] = n;
        return was;
    }

    int tallies(int what) {
        if (!in(what, 0, 7)) {
            return BAD;
        }
        int unlike = NONE;
        int doubt = 0;
        for (int g = 4; g >= 0; g--) {
            int differ = Math.abs(s.tallies[0][g] - s.tallies[1][g]);
            doubt += differ;
            unlike = differ == 0 ? unlike : g;
        }
        if (what < 2) {
            return what == 0 ? unlike : doubt;
        }
        if (what == 2) {
            Result r = counted(s.today);
            return doubt >= r.firsts() - r.second ? 1 : 0;
        }
        int through = (int) goodOnes(s.today).stream().filter(h -> h.gate == what - 3).count();
        return 100 + s.tallies[0][what - 3] - through;
    }

    private void sendAway(int man, Sent sent) {
        Man m = s.men.get(man);
        s.men.set(man, new Man(m.ward, m.club, m.name, m.father, m.hand, m.how, sent));
    }

    int send() {
        int who = counted(s.today).goes(lawText());
        if (who == NONE) {
            return NONE;
        }
        if (sent(who, s.today)) {
            return STATE;
        }
        sendAway(who, new Sent(s.today, s.today + years() * 360 - 1, false));
        return who;
    }

    int recall(int man, int yes, int total) {
        if (!has(s.men, man) || !in(yes, 0, total) || !in(total, 0, 9999)) {
            return BAD;
        }
        if (!sent(man, s.today)) {
            return STATE;
        }
        if (!holds(lawText(), "recall", "yes + yes > total", Map.of("yes", yes, "total", total))) {
            return 0;
        }
        sendAway(man, new Sent(s.men.get(man).sent.from, s.today - 1, true));
        return 1;
    }

    int may(int man, int day) {
        if (!has(s.men, man) || !day(day)) {
            return BAD;
        }
        if (!sent(man, day)) {
            return STATE;
        }
        Map<String, Integer> facts = Map.of("days", day - s.men.get(man).sent.from, "years", years());
        return holds(lawText(), "may", "0", facts) ? 1 : 0;
    }

    private Result polled(int day, ToIntFunction<Integer> casts) {
        Result r = new Result();
        for (int i = 0; i < s.men.size(); i++) {
            int whom = casts.applyAsInt(i);
            if (comes(i, day) == 1 && whom >= 0) {
                r.total++;
                r.least.get(whom).add(s.wards.get(s.men.get(i).ward).tribe);
            }
        }
        return r.end();
    }

    int beside(int man, int day) {
        if (man != -1 && !has(s.men, man) || !day(day)) {
            return BAD;
        }
        Kept was = s.copy();
        if (man != -1) {
            sendAway(man, new Sent(day, day, false));
        }
        int who = polled(day, i -> cast(i, day)).goes(lawText());
        s = was;
        return who;
    }

    int keptBy(int day) {
        if (!day(day)) {
            return BAD;
        }
        return polled(day, i -> {
            int club = s.men.get(i).club;
            int x = club == -1 ? NONE : bound(club, day);
            return x >= 0 && x != i && !sent(x, day) ? x : cast(i, day);
        }).goes(lawText());
    }

    int broken(int club, int k) {
        if (!in(club, 0, 5) || !in(k, 0, s.today)) {
            return BAD;
        }
        int x = bound(club, k);
        if (x < 0) {
            return STATE;
        }
        int due = 0;
        for (int i = 0; i < s.men.size(); i++) {
            due += i != x && s.men.get(i).club == club ? comes(i, k) : 0;
        }
        int have = 0;
        int sure = 0;
        for (Sherd h : goodOnes(k)) {
            have += meant(h).contains(x) ? 1 : 0;
            sure += meant(h).contains(x) && sure(h) ? 1 : 0;
        }
        return have < due ? 2 : sure < due ? 1 : 0;
    }

    private int turnBy(String text, int y, int day) {
        if (sent(y, day)) {
            return NONE;
        }
        int[] plain = new int[s.men.size()];
        for (int i = 0; i < plain.length; i++) {
            plain[i] = cast(i, day);
        }
        for (int size = 0; size <= 6; size++) {
            for (int set = 0; set < 64; set++) {
                int clubs = set;
                ToIntFunction<Integer> casts = i -> {
                    int club = s.men.get(i).club;
                    return i != y && club != -1 && (clubs & 1 << club) != 0 ? y : plain[i];
                };
                if (Integer.bitCount(set) == size && polled(day, casts).goes(text) == y) {
                    return set;
                }
            }
        }
        return NONE;
    }

    int turn(int man, int day) {
        return has(s.men, man) && day(day) ? turnBy(lawText(), man, day) : BAD;
    }

    private List<int[]> proof(String text, int day) {
        List<int[]> list = new ArrayList<>();
        for (int i = 0; i < s.men.size(); i++) {
            int set = turnBy(text, i, day);
            list.add(new int[] {i, set == NONE ? -1 : Integer.bitCount(set)});
        }
        return list;
    }

    int prove(int day) {
        if (!day(day)) {
            return BAD;
        }
        rows.clear();
        rows.addAll(proof(lawText(), day));
        return rows.size();
    }

    int row(int i, int what) {
        return has(rows, i) && in(what, 0, 1) ? rows.get(i)[what] : -9;
    }

    int alterRow(int i, int what, int v) {
        int was = row(i, what);
        if (has(rows, i) && in(what, 0, 1)) {
            rows.get(i)[what] = v;
        }
        return was;
    }

    int judge(int day) {
        if (!day(day)) {
            return BAD;
        }
        List<int[]> right = proof(lawText(), day);
        for (int i = 0; i < rows.size(); i++) {
            if (!has(right, i) || !Arrays.equals(right.get(i), rows.get(i))) {
                return i + 1;
            }
        }
        return rows.size() < right.size() ? rows.size() + 1 : 0;
    }

    int best(int day) {
        if (!day(day)) {
            return BAD;
        }
        int best = NONE;
        int most = -1;
        for (int law : s.laws.keySet()) {
            int least = 7;
            for (int[] row : proof(s.laws.get(law), day)) {
                least = row[1] == -1 ? least : Math.min(least, row[1]);
            }
            if (least > most) {
                most = least;
                best = law;
            }
        }
        return best;
    }

    int heap(int sherd) {
        if (!has(s.sherds, sherd)) {
            return BAD;
        }
        if (s.heap.contains(sherd)) {
            return STATE;
        }
        if (s.heap.size() == 9) {
            return FULL;
        }
        s.heap.add(sherd);
        return s.heap.size();
    }

    int clear() {
        int had = s.heap.size();
        s.heap.clear();
        return had;
    }

    int alike(int sherd, int other) {
        if (!has(s.sherds, sherd) || !has(s.sherds, other)) {
            return BAD;
        }
        String x = String.format("%04d", s.sherds.get(sherd).hand);
        String y = String.format("%04d", s.sherds.get(other).hand);
        int sum = 0;
        for (int i = 0; i < 4; i++) {
            sum += Math.abs(x.charAt(i) - y.charAt(i));
        }
        return sum <= s.rules[3] ? 1 : 0;
    }

    /** All partings, the lesser part first: the first one with the fewest parts. */
    private void part(List<Integer> part, List<Integer> best) {
        int i = part.size();
        int parts = part.stream().mapToInt(p -> p + 1).max().orElse(0);
        if (!best.isEmpty() && parts >= best.stream().mapToInt(p -> p + 1).max().orElse(0)) {
            return;
        }
        if (i == s.heap.size()) {
            best.clear();
            best.addAll(part);
            return;
        }
        for (int p = 0; p <= parts; p++) {
            boolean goes = true;
            for (int j = 0; j < i; j++) {
                goes &= part.get(j) != p || alike(s.heap.get(i), s.heap.get(j)) == 1;
            }
            if (goes) {
                part.add(p);
                part(part, best);
                part.remove(i);
            }
        }
    }

    int hands(int what) {
        List<Integer> best = new ArrayList<>();
        part(new ArrayList<>(), best);
        int parts = best.stream().mapToInt(p -> p + 1).max().orElse(0);
        if (what == 0) {
            return parts;
        }
        if (what == 1) {
            int hired = 0;
            for (int p = 0; p < parts; p++) {
                int size = 0;
                TreeSet<Integer> gates = new TreeSet<>();
                for (int i = 0; i < best.size(); i++) {
                    if (best.get(i) == p) {
                        size++;
                        gates.add(s.sherds.get(s.heap.get(i)).gate);
                    }
                }
                gates.remove(-1);
                hired += size >= 3 && gates.size() >= 2 ? 1 : 0;
            }
            return hired;
        }
        return what >= 10 && has(best, what - 10) ? best.get(what - 10) : BAD;
    }

    // The host is Java itself here: what it throws is what is refused.

    private static int refused(IntSupplier call) {
        try {
            return call.getAsInt();
        } catch (ClassCastException e) {
            return -13;
        } catch (NullPointerException e) {
            return -11;
        } catch (ArrayIndexOutOfBoundsException e) {
            return -12;
        } catch (NegativeArraySizeException e) {
            return -14;
        } catch (ArithmeticException e) {
            return -15;
        }
    }

    int sheet(int sheet, int sort, int n) {
        if (!in(sheet, 0, 3) || !in(sort, -1, 4) || sort != -1 && n > 40) {
            return BAD;
        }
        return refused(() -> {
            switch (sort) {
                case -1 -> sheets[sheet] = null;
                case 0 -> sheets[sheet] = new byte[n];
                case 1 -> sheets[sheet] = new short[n];
                case 2 -> sheets[sheet] = new int[n];
                case 3 -> sheets[sheet] = new long[n];
                default -> sheets[sheet] = new boolean[n];
            }
            return 1;
        });
    }

    int put(int sheet, int i, int v) {
        if (!in(sheet, 0, 3)) {
            return BAD;
        }
        return refused(() -> {
            Object row = sheets[sheet];
            if (row instanceof byte[] b) {
                b[i] = (byte) v;
            } else if (row instanceof short[] h) {
                h[i] = (short) v;
            } else if (row instanceof long[] l) {
                l[i] = v;
            } else if (row instanceof boolean[] z) {
                z[i] = v != 0;
            } else {
                ((int[]) row)[i] = v;
            }
            return 1;
        });
    }

    int item(int sheet, int sort, int i) {
        if (!in(sheet, 0, 3) || !in(sort, 0, 4)) {
            return BAD;
        }
        return refused(() -> switch (sort) {
            case 0 -> ((byte[]) sheets[sheet])[i];
            case 1 -> ((short[]) sheets[sheet])[i];
            case 2 -> ((int[]) sheets[sheet])[i];
            case 3 -> (int) ((long[]) sheets[sheet])[i];
            default -> ((boolean[]) sheets[sheet])[i] ? 1 : 0;
        });
    }

    int comesFrom(int sheet, int i) {
        if (!in(sheet, 0, 3)) {
            return BAD;
        }
        return refused(() -> {
            int[] r = (int[]) sheets[sheet];
            return sherd(r[i], r[i + 1], r[i + 2], r[i + 3], r[i + 4], r[i + 5]);
        });
    }

    /** A thing by its number. */
    record Place(int what, int n) { }

    int shelf(int shelf, int what, int n) {
        if (!in(shelf, 0, 3) || !in(what, 0, 4)) {
            return BAD;
        }
        boolean there = what == 0 && has(s.sherds, n) || what == 1 && has(s.bargains, n) || what == 2 && has(s.men, n)
            || what == 3 && in(n, 0, 3) || what == 4;
        if (!there) {
            return BAD;
        }
        shelves[shelf] = what == 4 ? null : what == 3 ? sheets[n] : new Place(what, n);
        return 1;
    }

    private class Thing {
        final int n;
        final int a;

        Thing(int n, int a) {
            this.n = n;
            this.a = a;
        }

        int names(int x) {
            trace.add(10);
            return x + n;
        }

        int counts(int x) {
            trace.add(11);
            return names(x) * 2;
        }

        int binds(int x) {
            trace.add(12);
            return counts(x) - a;
        }

        int tells(int x) {
            trace.add(13);
            return x / (a - n);
        }
    }

    private class SherdThing extends Thing {
        SherdThing(int n, int a) {
            super(n, a);
        }

        @Override int counts(int x) {
            trace.add(20);
            return super.counts(x) ^ a;
        }

        @Override int tells(int x) {
            trace.add(21);
            return super.tells(x) + 1;
        }
    }

    private final class ReadyThing extends SherdThing {
        ReadyThing(int n, int a) {
            super(n, a);
        }

        @Override int names(int x) {
            trace.add(30);
            return super.names(x) * 3;
        }
    }

    private final class VoidThing extends SherdThing {
        VoidThing(int n, int a) {
            super(n, a);
        }

        @Override int counts(int x) {
            trace.add(40);
            return 0 - super.counts(x);
        }

        @Override int binds(int x) {
            trace.add(41);
            return super.binds(x) + names(2);
        }
    }

    private final class BargainThing extends Thing {
        BargainThing(int n, int a) {
            super(n, a);
        }

        @Override int binds(int x) {
            trace.add(50);
            return super.binds(x) * 2;
        }

        @Override int names(int x) {
            trace.add(51);
            return super.names(x - 1);
        }
    }

    private class SentThing extends Thing {
        SentThing(int n, int a) {
            super(n, a);
        }

        @Override int tells(int x) {
            trace.add(60);
            return super.tells(x + 7) - names(x);
        }
    }

    private final class RecallThing extends SentThing {
        RecallThing(int n, int a) {
            super(n, a);
        }

        @Override int binds(int x) {
            trace.add(70);
            return super.binds(x) - 1;
        }

        @Override int tells(int x) {
            trace.add(71);
            return 0 - super.tells(x);
        }
    }

    private Object on(int shelf) {
        if (!(shelves[shelf] instanceof Place p)) {
            return shelves[shelf];
        }
        int n = p.n;
        if (p.what == 0 && has(s.sherds, n)) {
            Sherd h = s.sherds.get(n);
            if (meant(h).isEmpty() || h.second != 0) {
                return new VoidThing(n, h.hand);
            }
            return h.ready ? new ReadyThing(n, h.hand) : new SherdThing(n, h.hand);
        }
        if (p.what == 1 && has(s.bargains, n)) {
            return new BargainThing(n, s.bargains.get(n).club);
        }
        if (p.what == 2 && has(s.men, n) && s.men.get(n).sent != null) {
            Sent sent = s.men.get(n).sent;
            return sent.recalled ? new RecallThing(n, sent.from) : new SentThing(n, sent.from);
        }
        return null;
    }

    int taken(int shelf, int as) {
        if (!in(shelf, 0, 3) || !in(as, 0, 6) && !in(as, 10, 14)) {
            return BAD;
        }
        Object o = on(shelf);
        return refused(() -> switch (as) {
            case 0 -> ((Thing) o).n;
            case 1 -> ((SherdThing) o).n;
            case 2 -> ((ReadyThing) o).n;
            case 3 -> ((VoidThing) o).n;
            case 4 -> ((BargainThing) o).n;
            case 5 -> ((SentThing) o).n;
            case 6 -> ((RecallThing) o).n;
            case 10 -> ((byte[]) o).length;
            case 11 -> ((short[]) o).length;
            case 12 -> ((int[]) o).length;
            case 13 -> ((long[]) o).length;
            default -> ((boolean[]) o).length;
        });
    }

    int act(int shelf, int act, int x) {
        trace.clear();
        if (!in(shelf, 0, 3) || !in(act, 0, 3) || !(on(shelf) instanceof Thing t)) {
            return 0;
        }
        return refused(() -> switch (act) {
            case 0 -> t.names(x);
            case 1 -> t.counts(x);
            case 2 -> t.binds(x);
            default -> t.tells(x);
        });
    }

    int trace(int i) {
        return has(trace, i) && i < 30 ? trace.get(i) : NONE;
    }

    int many(int what) {
        if (!in(what, 0, 13)) {
            return BAD;
        }
        int sent = 0;
        int come = 0;
        for (int i = 0; i < s.men.size(); i++) {
            sent += sent(i, s.today) ? 1 : 0;
            come += comes(i, s.today);
        }
        return new int[] {s.today, s.wards.size(), s.men.size(), s.words.size(), s.bargains.size(), s.sherds.size(),
            s.wet.size(), rows.size(), s.heap.size(), tape.length(), Math.min(30, trace.size()),
            s.force == -1 ? 9 : s.force, sent, come}[what];
    }

    int keep() {
        kept = s.copy();
        return 1;
    }

    int again() {
        if (kept == null) {
            return NONE;
        }
        s = kept.copy();
        return 1;
    }

    @SuppressWarnings("serial")
    private static final class Fault extends RuntimeException { }

    /** Reads a text by its grammar; at is where it stands, also when there is a fault. */
    private static final class Text {
        final String text;
        final Map<String, Integer> facts;
        final Map<String, Integer> lines = new TreeMap<>();
        int at;
        private String line;

        Text(String text, Map<String, Integer> facts) {
            this.text = text;
            this.facts = facts;
        }

        private String peek() {
            while (at < text.length() && text.charAt(at) == ' ') {
                at++;
            }
            for (String sort : new String[] {"[a-z]+", "[0-9]+"}) {
                java.util.regex.Matcher m = java.util.regex.Pattern.compile(sort).matcher(text);
                m.region(at, text.length());
                if (m.lookingAt()) {
                    return m.group();
                }
            }
            return at < text.length() ? text.substring(at, at + 1) : "";
        }

        private boolean eats(String token) {
            boolean is = peek().equals(token);
            at += is ? token.length() : 0;
            return is;
        }

        private void must(boolean is) {
            if (!is) {
                throw new Fault();
            }
        }

        void all() {
            while (!peek().isEmpty()) {
                line = peek();
                must(List.of("good", "enough", "recall", "may", "years").contains(line) && !lines.containsKey(line));
                eats(line);
                if (line.equals("years")) {
                    String n = peek();
                    must(n.matches("[0-9]{1,4}") && Integer.parseInt(n) <= 50);
                    eats(n);
                    lines.put(line, Integer.parseInt(n));
                } else {
                    lines.put(line, cond(0) ? 1 : 0);
                }
                must(eats(";"));
            }
        }

        private boolean cond(int depth) {
            boolean v = both(depth);
            while (eats("or")) {
                v |= both(depth);
            }
            return v;
        }

        private boolean both(int depth) {
            boolean v = one(depth);
            while (eats("and")) {
                v &= one(depth);
            }
            return v;
        }

        private boolean one(int depth) {
            if (eats("not")) {
                return !one(depth);
            }
            if (peek().equals("(")) {
                must(depth < 5);
                eats("(");
                boolean v = cond(depth + 1);
                must(eats(")"));
                return v;
            }
            int left = sum();
            if (eats("<")) {
                return left < sum();
            }
            if (eats("=")) {
                return left == sum();
            }
            if (eats(">")) {
                return left > sum();
            }
            return left != 0;
        }

        private int sum() {
            int v = term();
            while (true) {
                if (eats("+")) {
                    v += term();
                } else if (eats("-")) {
                    v -= term();
                } else {
                    return v;
                }
            }
        }

        private int term() {
            String t = peek();
            if (t.matches("[0-9]{1,4}")) {
                eats(t);
                return Integer.parseInt(t);
            }
            List<String> known = switch (line) {
                case "good" -> List.of("name", "sure", "father", "ward", "gate", "two", "ready");
                case "enough" -> List.of("total", "first", "second", "tribes");
                case "recall" -> List.of("yes", "total");
                default -> List.of("days", "years");
            };
            must(known.contains(t));
            eats(t);
            return facts.getOrDefault(t, 0);
        }
    }
}
