/** A city that may send one man away each spring by names scratched on sherds. */
public final class SherdCity {
    public static final int BAD = -1, FULL = -2, NONE = -3, STATE = -4;

    /** What the host refuses. */
    private static final int NOTHING = -11, OUTSIDE = -12, OTHER_SORT = -13, BELOW_ZERO = -14, PARTED_BY_ZERO = -15;
    /** Some calls refuse with numbers of their own, since theirs may be answers there. */
    private static final int NO_SUCH = -9, NEVER_READ = -8;

    private static final int LAST_DAY = 9999, MOST_DAYS = 400, YEAR = 360;
    private static final int TRIBES = 5, CLUBS = 6, LAWS = 4, RULES = 4, SHEETS = 4, SHELVES = 4, COUNTERS = 2;
    private static final int MOST_WARDS = 8, MOST_MEN = 16, MOST_WORDS = 8, MOST_BARGAINS = 8, MOST_SHERDS = 40;
    private static final int MOST_WET = 20, MOST_HEAP = 9, MOST_TAPE = 300, MOST_ITEMS = 40, MOST_TRACE = 30;
    private static final int MOST_HAND = 9999, READY_MORE = 10000;
    private static final int LETTERS = 6, BASE = 27, NAMES_END = 387420489;
    private static final int NOBODY = -1;

    /** The rules, as rule() numbers them. */
    private static final int LIMIT = 0, BREAK = 1, LEAST = 2, SLACK = 3;
    private static final int[] RULE_AT_FIRST = {300, 3, 1, 4};
    private static final int[] RULE_MOST = {1200, 20, 20, 36};

    /** The lines of a law. */
    private static final int GOOD = 0, ENOUGH = 1, RECALL = 2, MAY = 3, YEARS = 4;

    /** Ops of a law's code; op / 4 is how strongly it binds. */
    private static final int OPEN = 0, OR = 4, AND = 8, NOT = 12, LESS = 16, EQUAL = 17, MORE = 18, ADD = 20, SUB = 21;
    private static final int NUMBER = 24, FACT = 25, TRUTH = 26;

    /** Kinds of things. */
    private static final int THING = 0, SHERD = 1, READY = 2, VOID = 3, BARGAIN = 4, SENT = 5, RECALLED = 6;
    private static final int[] KIND_ABOVE = {-1, THING, SHERD, SHERD, THING, THING, SENT};

    /** What a shelf holds. */
    private static final int HOLDS_SHERD = 0, HOLDS_BARGAIN = 1, HOLDS_MAN = 2, HOLDS_ROW = 3, HOLDS_NOTHING = 4;

    /** All sets of clubs, the small ones first, of those as small the least bits first. */
    private static final int[] CLUB_SETS = {
        0, 1, 2, 4, 8, 16, 32, 3, 5, 6, 9, 10, 12, 17, 18, 20, 24, 33, 34, 36, 40, 48, 7, 11, 13, 14, 19, 21,
        22, 25, 26, 28, 35, 37, 38, 41, 42, 44, 49, 50, 52, 56, 15, 23, 27, 29, 30, 39, 43, 45, 46, 51, 53, 54,
        57, 58, 60, 31, 47, 55, 59, 61, 62, 63,
    };

    private final City city;
    private City kept;
    private final LawReader reader;
    private final Poll poll;
    private final Actor actor;
    private final int[] casts;
    private int comers;
    private final int[] rowMan;
    private final int[] rowClubs;
    private int rows;
    private final Row[] sheets;
    private final int[] shelfWhat;
    private final int[] shelfNumber;
    private final Row[] shelfRow;
    private final int[] partOf;
    private final int[] partMembers;
    private final int[] alikeTo;

    public SherdCity() {
        city = new City();
        reader = new LawReader();
        poll = new Poll();
        actor = new Actor();
        casts = new int[MOST_MEN];
        rowMan = new int[MOST_MEN];
        rowClubs = new int[MOST_MEN];
        sheets = new Row[SHEETS];
        shelfWhat = new int[SHELVES];
        for (int i = 0; i < SHELVES; i++) {
            shelfWhat[i] = HOLDS_NOTHING;
        }
        shelfNumber = new int[SHELVES];
        shelfRow = new Row[SHELVES];
        partOf = new int[MOST_HEAP];
        partMembers = new int[MOST_HEAP];
        alikeTo = new int[MOST_HEAP];
    }

    // ---- what is as told

    private static boolean within(int v, int low, int high) {
        return v >= low && v <= high;
    }

    private static boolean isDay(int day) {
        return within(day, 0, LAST_DAY);
    }

    private static boolean isClub(int club) {
        return within(club, 0, CLUBS - 1);
    }

    private static boolean isName(int name) {
        if (name < 1 || name >= NAMES_END) {
            return false;
        }
        for (int rest = name; rest > 0; rest /= BASE) {
            if (rest % BASE == 0) {
                return false;
            }
        }
        return true;
    }

    private static int asAnswer(boolean is) {
        return is ? 1 : 0;
    }

    /** Letters are taken from the last on: two names are as far apart backwards. */
    private static int lettersApart(int name, int other, int[] line) {
        int width = 0;
        line[0] = 0;
        for (int rest = other; rest > 0 && width < LETTERS; rest /= BASE) {
            width++;
            line[width] = width;
        }
        int done = 0;
        for (int x = name; x > 0; x /= BASE) {
            int corner = done;
            done++;
            line[0] = done;
            int y = other;
            for (int j = 1; j <= width; j++) {
                int changed = x % BASE == y % BASE ? corner : corner + 1;
                corner = line[j];
                int shifted = Math.min(line[j], line[j - 1]) + 1;
                line[j] = Math.min(changed, shifted);
                y /= BASE;
            }
        }
        return line[width];
    }

    // ---- days, wards, men

    public int days(int n) {
        if (!within(n, 1, MOST_DAYS)) {
            return BAD;
        }
        if (city.today > LAST_DAY - n) {
            return STATE;
        }
        int end = city.today + n;
        // Three days in a row without a new hearer hold one of each remainder by 3: no later day brings one.
        int still = 0;
        for (int i = 0; i < n && still < 3; i++) {
            still = city.passDay() ? 0 : still + 1;
        }
        city.today = end;
        return end;
    }

    public int wet(int day) {
        if (!isDay(day)) {
            return BAD;
        }
        if (city.isWet(day)) {
            return STATE;
        }
        if (city.wetDays >= MOST_WET) {
            return FULL;
        }
        city.wet[city.wetDays] = day;
        city.wetDays++;
        return city.wetDays;
    }

    public int ward(int tribe, int minutes) {
        if (!within(tribe, 0, TRIBES - 1) || !within(minutes, 0, 600)) {
            return BAD;
        }
        if (city.wardCount >= MOST_WARDS) {
            return FULL;
        }
        city.wards[city.wardCount].begin(tribe, minutes);
        city.wardCount++;
        return city.wardCount - 1;
    }

    public int harvest(int ward, int first, int last) {
        if (!city.hasWard(ward) || !isDay(first) || !isDay(last) || last < first) {
            return BAD;
        }
        city.wards[ward].harvestFirst = first;
        city.wards[ward].harvestLast = last;
        return 1;
    }

    public int man(int ward, int club, int name, int father) {
        if (!city.hasWard(ward) || !within(club, -1, CLUBS - 1) || !isName(name) || !isName(father)) {
            return BAD;
        }
        if (city.manCount >= MOST_MEN) {
            return FULL;
        }
        return city.addMan(ward, club, name, father);
    }

    public int style(int man, int hand, int how) {
        if (!city.hasMan(man) || !within(hand, 0, MOST_HAND) || !within(how, 0, 3)) {
            return BAD;
        }
        city.men[man].hand = hand;
        city.men[man].how = how;
        return 1;
    }

    public int fear(int man, int of, int v) {
        if (!city.areTwoMen(man, of) || !within(v, 0, 9)) {
            return BAD;
        }
        int was = city.men[man].fears[of];
        city.men[man].fears[of] = v;
        return was;
    }

    public int word(int about, int weight, int to) {
        if (!city.hasMan(about) || !city.hasMan(to) || !within(weight, -5, 5)) {
            return BAD;
        }
        if (city.wordCount >= MOST_WORDS) {
            return FULL;
        }
        Word word = city.words[city.wordCount];
        word.begin(about, weight);
        word.heardOn[to] = city.today;
        city.wordCount++;
        return city.wordCount - 1;
    }

    public int heard(int man, int word) {
        if (!city.hasMan(man) || !within(word, 0, city.wordCount - 1)) {
            return BAD;
        }
        int day = city.words[word].heardOn[man];
        return day < 0 ? NONE : day;
    }

    public int dread(int man, int of, int day) {
        if (!city.areTwoMen(man, of) || !isDay(day)) {
            return BAD;
        }
        return city.dreadOf(man, of, day);
    }

    public int rule(int what, int v) {
        if (!within(what, 0, RULES - 1) || !within(v, 0, RULE_MOST[what])) {
            return BAD;
        }
        int was = city.rules[what];
        city.rules[what] = v;
        return was;
    }

    public int of(int man, int what) {
        if (!city.hasMan(man)) {
            return BAD;
        }
        Man m = city.men[man];
        switch (what) {
            case 0: return m.ward;
            case 1: return m.club < 0 ? NONE : m.club;
            case 2: return m.name;
            case 3: return m.father;
            case 4: return m.hand;
            case 5: return m.wasSent() ? m.sentFirst : NONE;
            case 6: return m.wasSent() ? m.sentLast : NONE;
            case 7: return asAnswer(m.recalled);
            default: return BAD;
        }
    }

    // ---- bargains, casts

    public int bargain(int club, int man, int first, int last) {
        if (!isClub(club) || !city.hasMan(man) || !isDay(first) || !isDay(last) || last < first) {
            return BAD;
        }
        if (city.bargainCount >= MOST_BARGAINS) {
            return FULL;
        }
        city.bargains[city.bargainCount].begin(club, man, first, last);
        city.bargainCount++;
        return city.bargainCount - 1;
    }

    public int bound(int club, int day) {
        if (!isClub(club) || !isDay(day)) {
            return BAD;
        }
        int man = city.boundTo(club, day);
        return man < 0 ? NONE : man;
    }

    public int comes(int man, int day) {
        if (!city.hasMan(man) || !isDay(day)) {
            return BAD;
        }
        return asAnswer(city.isThere(man, day, NOBODY));
    }

    public int cast(int man, int day) {
        if (!city.hasMan(man) || !isDay(day)) {
            return BAD;
        }
        if (!city.isThere(man, day, NOBODY)) {
            return STATE;
        }
        int whom = city.castOf(man, day, NOBODY);
        return whom < 0 ? NONE : whom;
    }

    // ---- sherds

    public int sherd(int name, int father, int ward, int gate, int second, int how) {
        if (!isName(name) || (father != 0 && !isName(father)) || (second != 0 && !isName(second))) {
            return BAD;
        }
        if ((ward != -1 && !city.hasWard(ward)) || !within(gate, -1, TRIBES - 1)) {
            return BAD;
        }
        if (!within(how, 0, READY_MORE + MOST_HAND)) {
            return BAD;
        }
        if (city.sherdCount >= MOST_SHERDS) {
            return FULL;
        }
        Sherd sherd = city.sherds[city.sherdCount];
        sherd.begin(name, father, ward, gate);
        sherd.second = second;
        sherd.ready = how >= READY_MORE;
        sherd.hand = how % READY_MORE;
        return city.addSherd();
    }

    public int vote() {
        drawCasts(city.today, NOBODY, false);
        int made = 0;
        for (int i = 0; i < city.manCount; i++) {
            if (casts[i] >= 0) {
                made++;
            }
        }
        if (city.sherdCount + made > MOST_SHERDS) {
            return FULL;
        }
        for (int i = 0; i < city.manCount; i++) {
            if (casts[i] >= 0) {
                scratch(city.men[i], city.men[casts[i]]);
            }
        }
        return made;
    }

    private void scratch(Man writer, Man whom) {
        Sherd sherd = city.sherds[city.sherdCount];
        int father = writer.writesFathers() ? whom.father : 0;
        int ward = writer.writesWards() ? whom.ward : -1;
        sherd.begin(whom.name, father, ward, city.wards[writer.ward].tribe);
        sherd.hand = writer.hand;
        city.addSherd();
    }

    public int thrown(int sherd) {
        if (!city.hasSherd(sherd)) {
            return BAD;
        }
        if (city.sherds[sherd].thrownOn >= 0) {
            return STATE;
        }
        city.sherds[sherd].thrownOn = city.today;
        return 1;
    }

    public int sherdOf(int sherd, int what) {
        if (!city.hasSherd(sherd)) {
            return BAD;
        }
        Sherd s = city.sherds[sherd];
        switch (what) {
            case 0: return s.name;
            case 1: return s.father;
            case 2: return s.ward < 0 ? NONE : s.ward;
            case 3: return s.gate < 0 ? NONE : s.gate;
            case 4: return s.second;
            case 5: return asAnswer(s.ready);
            case 6: return s.hand;
            case 7: return s.foundOn;
            case 8: return s.thrownOn < 0 ? NONE : s.thrownOn;
            case 9: return s.howMeant();
            case 10: return s.meant();
            case 11: return asAnswer(city.lawNow().isGood(s));
            default: return BAD;
        }
    }

    public int apart(int name, int other) {
        if (!isName(name) || !isName(other)) {
            return BAD;
        }
        return lettersApart(name, other, city.line);
    }

    // ---- laws

    public int feed(long eight, int n) {
        if (!within(n, 1, 8)) {
            return BAD;
        }
        if (reader.size > MOST_TAPE - n) {
            return FULL;
        }
        for (int i = 0; i < n; i++) {
            reader.tape[reader.size + i] = (int) (eight >> (8 * i)) & 255;
        }
        reader.size += n;
        return reader.size;
    }

    public int read(int law) {
        if (!within(law, 0, LAWS - 1)) {
            return BAD;
        }
        int answer = reader.useTape();
        if (answer >= 0) {
            city.laws[law].become(reader.draft);
        }
        return answer;
    }

    public int force(int law) {
        if (!within(law, -1, LAWS - 1)) {
            return NO_SUCH;
        }
        if (law >= 0 && !city.laws[law].wasRead) {
            return NEVER_READ;
        }
        int was = city.inForce;
        city.inForce = law;
        return was;
    }

    public int law(int what) {
        if (what == 0) {
            return city.lawNow().years;
        }
        if (!within(what, 1, YEARS)) {
            return BAD;
        }
        return asAnswer(city.lawNow().tells(what - 1));
    }

    // ---- counts

    public int count(int k, int what) {
        if (!within(k, 0, city.today)) {
            return BAD;
        }
        city.countKnown(k, poll);
        int first = poll.firstMan();
        switch (what) {
            case 0: return poll.total;
            case 1: return first < 0 ? NONE : first;
            case 2: return poll.leastOf(first);
            case 3: return poll.secondTo(first);
            case 4: return poll.tribesFor(first);
            case 5: return poll.whoGoes(city.lawNow());
            case 6: return asAnswer(poll.isCertain(city.lawNow()));
            default: return BAD;
        }
    }

    public int counted(int man, int k, boolean most) {
        if (!city.hasMan(man) || !within(k, 0, city.today)) {
            return BAD;
        }
        city.countKnown(k, poll);
        return most ? poll.most[man] : poll.least[man];
    }

    public int tally(int counter, int gate, int n) {
        if (!within(counter, 0, COUNTERS - 1) || !within(gate, 0, TRIBES - 1) || !within(n, 0, 99)) {
            return BAD;
        }
        int was = city.tallies[counter][gate];
        city.tallies[counter][gate] = n;
        return was;
    }

    public int tallies(int what) {
        if (!within(what, 0, 2 + TRIBES)) {
            return BAD;
        }
        if (what == 0) {
            return city.unlikeGate();
        }
        if (what == 1) {
            return city.doubt();
        }
        city.countKnown(city.today, poll);
        if (what == 2) {
            int first = poll.firstMan();
            return asAnswer(city.doubt() >= poll.leastOf(first) - poll.secondTo(first));
        }
        return city.tallies[0][what - 3] - poll.through[what - 3] + 100;
    }

    // ---- sent, recalls, beside

    public int send() {
        city.countKnown(city.today, poll);
        int man = poll.whoGoes(city.lawNow());
        if (man < 0) {
            return NONE;
        }
        if (city.isSent(man, city.today, NOBODY)) {
            return STATE;
        }
        Man m = city.men[man];
        m.sentFirst = city.today;
        m.sentLast = city.today + city.lawNow().years * YEAR - 1;
        m.recalled = false;
        return man;
    }

    public int recall(int man, int yes, int total) {
        if (!city.hasMan(man) || !within(total, 0, 9999) || !within(yes, 0, total)) {
            return BAD;
        }
        if (!city.isSent(man, city.today, NOBODY)) {
            return STATE;
        }
        if (!city.lawNow().recalls(yes, total)) {
            return 0;
        }
        city.men[man].sentLast = city.today - 1;
        city.men[man].recalled = true;
        return 1;
    }

    public int may(int man, int day) {
        if (!city.hasMan(man) || !isDay(day)) {
            return BAD;
        }
        if (!city.isSent(man, day, NOBODY)) {
            return STATE;
        }
        return asAnswer(city.lawNow().allows(day - city.men[man].sentFirst));
    }

    public int beside(int man, int day) {
        if ((man != NOBODY && !city.hasMan(man)) || !isDay(day)) {
            return BAD;
        }
        drawCasts(day, man, false);
        pollCasts();
        return poll.whoGoes(city.lawNow());
    }

    public int keptBy(int day) {
        if (!isDay(day)) {
            return BAD;
        }
        drawCasts(day, NOBODY, true);
        pollCasts();
        return poll.whoGoes(city.lawNow());
    }

    public int broken(int club, int k) {
        if (!isClub(club) || !within(k, 0, city.today)) {
            return BAD;
        }
        int whom = city.boundTo(club, k);
        if (whom < 0) {
            return STATE;
        }
        int due = 0;
        for (int i = 0; i < city.manCount; i++) {
            if (i != whom && city.men[i].club == club && city.isThere(i, k, NOBODY)) {
                due++;
            }
        }
        city.countKnown(k, poll);
        if (poll.most[whom] < due) {
            return 2;
        }
        return poll.least[whom] < due ? 1 : 0;
    }

    public int turn(int man, int day) {
        if (!city.hasMan(man) || !isDay(day)) {
            return BAD;
        }
        drawCasts(day, NOBODY, false);
        int clubs = turnFor(man, day, city.lawNow());
        return clubs < 0 ? NONE : clubs;
    }

    public int prove(int day) {
        if (!isDay(day)) {
            return BAD;
        }
        drawCasts(day, NOBODY, false);
        rows = city.manCount;
        for (int i = 0; i < rows; i++) {
            rowMan[i] = i;
            rowClubs[i] = clubsToTurn(i, day, city.lawNow());
        }
        return rows;
    }

    public int row(int i, int what) {
        if (!within(i, 0, rows - 1) || !within(what, 0, 1)) {
            return NO_SUCH;
        }
        return what == 0 ? rowMan[i] : rowClubs[i];
    }

    public int alterRow(int i, int what, int v) {
        if (!within(i, 0, rows - 1) || !within(what, 0, 1)) {
            return NO_SUCH;
        }
        int[] column = what == 0 ? rowMan : rowClubs;
        int was = column[i];
        column[i] = v;
        return was;
    }

    public int judge(int day) {
        if (!isDay(day)) {
            return BAD;
        }
        drawCasts(day, NOBODY, false);
        for (int i = 0; i < rows; i++) {
            // Rows outlive again(), so there may be more of them than men.
            if (i >= city.manCount || rowMan[i] != i || rowClubs[i] != clubsToTurn(i, day, city.lawNow())) {
                return i + 1;
            }
        }
        return rows < city.manCount ? rows + 1 : 0;
    }

    public int best(int day) {
        if (!isDay(day)) {
            return BAD;
        }
        drawCasts(day, NOBODY, false);
        int best = NONE;
        int most = -1;
        for (int i = 0; i < LAWS; i++) {
            if (city.laws[i].wasRead) {
                int clubs = fewestClubs(day, city.laws[i]);
                if (clubs > most) {
                    most = clubs;
                    best = i;
                }
            }
        }
        return best;
    }

    /** Whom each man casts on a day with a man away, NOBODY where none or where he doesn't come. */
    private void drawCasts(int day, int away, boolean bargainsKept) {
        comers = 0;
        for (int i = 0; i < city.manCount; i++) {
            casts[i] = NOBODY;
            if (city.isThere(i, day, away)) {
                comers |= 1 << i;
                int owed = bargainsKept ? city.boundTo(city.men[i].club, day) : NOBODY;
                boolean pays = owed >= 0 && owed != i && !city.isSent(owed, day, away);
                casts[i] = pays ? owed : city.castOf(i, day, away);
            }
        }
    }

    private void pollCasts() {
        poll.begin(city.manCount);
        for (int i = 0; i < city.manCount; i++) {
            if (casts[i] >= 0) {
                poll.addCast(casts[i], city.wards[city.men[i].ward].tribe);
            }
        }
    }

    /** The least set of clubs with which a man goes, on the casts drawn for that day; NOBODY if there is none. */
    private int turnFor(int man, int day, Law law) {
        if (city.isSent(man, day, NOBODY)) {
            return NOBODY;
        }
        int useful = clubsOfComers(man);
        for (int clubs : CLUB_SETS) {
            // A club none of whose men could turn is in no smallest set.
            if ((clubs & ~useful) == 0 && goesWith(man, clubs, law)) {
                return clubs;
            }
        }
        return NOBODY;
    }

    private int clubsOfComers(int butMan) {
        int clubs = 0;
        for (int i = 0; i < city.manCount; i++) {
            int club = city.men[i].club;
            if (i != butMan && club >= 0 && (comers >> i & 1) != 0) {
                clubs |= 1 << club;
            }
        }
        return clubs;
    }

    private boolean goesWith(int man, int clubs, Law law) {
        poll.begin(city.manCount);
        for (int i = 0; i < city.manCount; i++) {
            if ((comers >> i & 1) != 0) {
                int club = city.men[i].club;
                boolean turns = i != man && club >= 0 && (clubs >> club & 1) != 0;
                int whom = turns ? man : casts[i];
                if (whom >= 0) {
                    poll.addCast(whom, city.wards[city.men[i].ward].tribe);
                }
            }
        }
        return poll.firstMan() == man && poll.whoGoes(law) == man;
    }

    private int clubsToTurn(int man, int day, Law law) {
        int clubs = turnFor(man, day, law);
        return clubs < 0 ? -1 : Integer.bitCount(clubs);
    }

    private int fewestClubs(int day, Law law) {
        int fewest = CLUBS + 1;
        for (int i = 0; i < city.manCount; i++) {
            int clubs = turnFor(i, day, law);
            if (clubs >= 0) {
                fewest = Math.min(fewest, Integer.bitCount(clubs));
            }
        }
        return fewest;
    }

    // ---- heaps, hands

    public int heap(int sherd) {
        if (!city.hasSherd(sherd)) {
            return BAD;
        }
        for (int i = 0; i < city.heapCount; i++) {
            if (city.heap[i] == sherd) {
                return STATE;
            }
        }
        if (city.heapCount >= MOST_HEAP) {
            return FULL;
        }
        city.heap[city.heapCount] = sherd;
        city.heapCount++;
        return city.heapCount;
    }

    public int clear() {
        int had = city.heapCount;
        city.heapCount = 0;
        return had;
    }

    public int alike(int sherd, int other) {
        if (!city.hasSherd(sherd) || !city.hasSherd(other)) {
            return BAD;
        }
        return asAnswer(city.areAlike(sherd, other));
    }

    public int hands(int what) {
        boolean asksPart = what >= 10 && what - 10 < city.heapCount;
        if (what != 0 && what != 1 && !asksPart) {
            return BAD;
        }
        int parts = partHeap();
        if (what == 0) {
            return parts;
        }
        return what == 1 ? hiredOf(parts) : partOf[what - 10];
    }

    /** Parts the heap into as few parts as can be, the first such in the order of the lesser part: how many. */
    private int partHeap() {
        for (int i = 0; i < city.heapCount; i++) {
            alikeTo[i] = 0;
            for (int j = 0; j < city.heapCount; j++) {
                if (city.areAlike(city.heap[i], city.heap[j])) {
                    alikeTo[i] |= 1 << j;
                }
            }
        }
        for (int parts = 0; parts < city.heapCount; parts++) {
            if (partsRest(alikeTo, partMembers, partOf, city.heapCount, 0, 0, parts)) {
                return parts;
            }
        }
        // Each in a part of its own always goes.
        partsRest(alikeTo, partMembers, partOf, city.heapCount, 0, 0, city.heapCount);
        return city.heapCount;
    }

    /** Whether those from the i-th on fit into parts, most at most, of which some are used; the least part first. */
    private static boolean partsRest(int[] alike, int[] members, int[] part, int count, int i, int used, int most) {
        if (i >= count) {
            return true;
        }
        for (int p = 0; p <= used && p < most; p++) {
            int had = p < used ? members[p] : 0;
            if ((had & ~alike[i]) == 0) {
                part[i] = p;
                members[p] = had | 1 << i;
                if (partsRest(alike, members, part, count, i + 1, Math.max(used, p + 1), most)) {
                    return true;
                }
                members[p] = had;
            }
        }
        return false;
    }

    private int hiredOf(int parts) {
        int hired = 0;
        for (int p = 0; p < parts; p++) {
            int members = 0;
            int gates = 0;
            for (int i = 0; i < city.heapCount; i++) {
                if (partOf[i] == p) {
                    members++;
                    gates |= city.sherds[city.heap[i]].gateBit();
                }
            }
            if (members >= 3 && Integer.bitCount(gates) >= 2) {
                hired++;
            }
        }
        return hired;
    }

    // ---- the host

    public int sheet(int sheet, int sort, int n) {
        if (!within(sheet, 0, SHEETS - 1) || !within(sort, -1, Row.SORTS - 1)) {
            return BAD;
        }
        if (sort == -1) {
            sheets[sheet] = null;
            return 1;
        }
        if (n > MOST_ITEMS) {
            return BAD;
        }
        if (n < 0) {
            return BELOW_ZERO;
        }
        sheets[sheet] = new Row(sort, n);
        return 1;
    }

    public int put(int sheet, int i, int v) {
        if (!within(sheet, 0, SHEETS - 1)) {
            return BAD;
        }
        Row row = sheets[sheet];
        if (row == null) {
            return NOTHING;
        }
        if (!within(i, 0, row.items.length - 1)) {
            return OUTSIDE;
        }
        row.items[i] = row.narrowed(v);
        return 1;
    }

    public int item(int sheet, int sort, int i) {
        if (!within(sheet, 0, SHEETS - 1) || !within(sort, 0, Row.SORTS - 1)) {
            return BAD;
        }
        Row row = sheets[sheet];
        if (row == null) {
            return NOTHING;
        }
        if (row.sort != sort) {
            return OTHER_SORT;
        }
        if (!within(i, 0, row.items.length - 1)) {
            return OUTSIDE;
        }
        return row.items[i];
    }

    public int comesFrom(int sheet, int i) {
        if (!within(sheet, 0, SHEETS - 1)) {
            return BAD;
        }
        Row row = sheets[sheet];
        if (row == null) {
            return NOTHING;
        }
        if (row.sort != Row.INTS) {
            return OTHER_SORT;
        }
        if (!within(i, 0, row.items.length - 6)) {
            return OUTSIDE;
        }
        int[] told = row.items;
        return sherd(told[i], told[i + 1], told[i + 2], told[i + 3], told[i + 4], told[i + 5]);
    }

    public int shelf(int shelf, int what, int n) {
        if (!within(shelf, 0, SHELVES - 1) || !canHold(what, n)) {
            return BAD;
        }
        shelfWhat[shelf] = what;
        shelfNumber[shelf] = n;
        shelfRow[shelf] = what == HOLDS_ROW ? sheets[n] : null;
        return 1;
    }

    private boolean canHold(int what, int n) {
        switch (what) {
            case HOLDS_SHERD: return city.hasSherd(n);
            case HOLDS_BARGAIN: return city.hasBargain(n);
            case HOLDS_MAN: return city.hasMan(n);
            case HOLDS_ROW: return within(n, 0, SHEETS - 1);
            default: return what == HOLDS_NOTHING;
        }
    }

    public int taken(int shelf, int as) {
        if (!within(shelf, 0, SHELVES - 1)) {
            return BAD;
        }
        boolean asRow = within(as, 10, 9 + Row.SORTS);
        if (!asRow && !within(as, THING, RECALLED)) {
            return BAD;
        }
        Row row = shelfRow[shelf];
        int kind = kindOn(shelf);
        if (row == null && kind < 0) {
            return NOTHING;
        }
        if (row != null) {
            return asRow && row.sort == as - 10 ? row.items.length : OTHER_SORT;
        }
        return !asRow && isUnder(kind, as) ? shelfNumber[shelf] : OTHER_SORT;
    }

    /** The kind of the thing on a shelf as it is now; -1: there is no thing. */
    private int kindOn(int shelf) {
        int n = shelfNumber[shelf];
        switch (shelfWhat[shelf]) {
            case HOLDS_SHERD: return city.hasSherd(n) ? city.sherds[n].kind() : -1;
            case HOLDS_BARGAIN: return city.hasBargain(n) ? BARGAIN : -1;
            case HOLDS_MAN: return city.hasMan(n) ? city.men[n].kind() : -1;
            default: return -1;
        }
    }

    private static boolean isUnder(int kind, int above) {
        int k = kind;
        // No kind is deeper than two under thing.
        for (int i = 0; i < 3 && k >= 0; i++) {
            if (k == above) {
                return true;
            }
            k = KIND_ABOVE[k];
        }
        return false;
    }

    public int act(int shelf, int act, int x) {
        actor.forget();
        if (!within(shelf, 0, SHELVES - 1) || !within(act, 0, 3)) {
            return 0;
        }
        int kind = kindOn(shelf);
        if (kind < 0) {
            return 0;
        }
        actor.kind = kind;
        actor.n = shelfNumber[shelf];
        actor.a = markOf(kind, actor.n);
        return actor.perform(act, x);
    }

    private int markOf(int kind, int n) {
        if (kind == BARGAIN) {
            return city.bargains[n].club;
        }
        return isUnder(kind, SENT) ? city.men[n].sentFirst : city.sherds[n].hand;
    }

    public int trace(int i) {
        return within(i, 0, actor.traced - 1) ? actor.trace[i] : NONE;
    }

    public int many(int what) {
        switch (what) {
            case 0: return city.today;
            case 1: return city.wardCount;
            case 2: return city.manCount;
            case 3: return city.wordCount;
            case 4: return city.bargainCount;
            case 5: return city.sherdCount;
            case 6: return city.wetDays;
            case 7: return rows;
            case 8: return city.heapCount;
            case 9: return reader.size;
            case 10: return actor.traced;
            case 11: return city.inForce < 0 ? 9 : city.inForce;
            case 12: return city.howManySent();
            case 13: return city.howManyCome();
            default: return BAD;
        }
    }

    // ---- kept

    public int keep() {
        if (kept == null) {
            kept = new City();
        }
        kept.become(city);
        return 1;
    }

    public int again() {
        if (kept == null) {
            return NONE;
        }
        city.become(kept);
        return 1;
    }

    /** All that keep() keeps. */
    private static final class City {
        int today;
        final int[] wet = new int[MOST_WET];
        int wetDays;
        final Ward[] wards = new Ward[MOST_WARDS];
        int wardCount;
        final Man[] men = new Man[MOST_MEN];
        int manCount;
        final Word[] words = new Word[MOST_WORDS];
        int wordCount;
        final Bargain[] bargains = new Bargain[MOST_BARGAINS];
        int bargainCount;
        final Sherd[] sherds = new Sherd[MOST_SHERDS];
        int sherdCount;
        /** The one behind the last is that of an empty text. */
        final Law[] laws = new Law[LAWS + 1];
        int inForce = -1;
        final int[] rules = RULE_AT_FIRST.clone();
        final int[][] tallies = new int[COUNTERS][TRIBES];
        final int[] heap = new int[MOST_HEAP];
        int heapCount;
        /** Room for lettersApart(). */
        final int[] line = new int[LETTERS + 1];

        City() {
            for (int i = 0; i < MOST_WARDS; i++) {
                wards[i] = new Ward();
            }
            for (int i = 0; i < MOST_MEN; i++) {
                men[i] = new Man();
            }
            for (int i = 0; i < MOST_WORDS; i++) {
                words[i] = new Word();
            }
            for (int i = 0; i < MOST_BARGAINS; i++) {
                bargains[i] = new Bargain();
            }
            for (int i = 0; i < MOST_SHERDS; i++) {
                sherds[i] = new Sherd();
            }
            for (int i = 0; i <= LAWS; i++) {
                laws[i] = new Law();
            }
        }

        void become(City other) {
            today = other.today;
            wetDays = other.wetDays;
            System.arraycopy(other.wet, 0, wet, 0, MOST_WET);
            inForce = other.inForce;
            System.arraycopy(other.rules, 0, rules, 0, RULES);
            for (int i = 0; i < COUNTERS; i++) {
                System.arraycopy(other.tallies[i], 0, tallies[i], 0, TRIBES);
            }
            heapCount = other.heapCount;
            System.arraycopy(other.heap, 0, heap, 0, MOST_HEAP);
            for (int i = 0; i < LAWS; i++) {
                laws[i].become(other.laws[i]);
            }
            becomeNumbered(other);
        }

        private void becomeNumbered(City other) {
            wardCount = other.wardCount;
            for (int i = 0; i < wardCount; i++) {
                wards[i].become(other.wards[i]);
            }
            manCount = other.manCount;
            for (int i = 0; i < manCount; i++) {
                men[i].become(other.men[i]);
            }
            wordCount = other.wordCount;
            for (int i = 0; i < wordCount; i++) {
                words[i].become(other.words[i]);
            }
            bargainCount = other.bargainCount;
            for (int i = 0; i < bargainCount; i++) {
                Bargain b = other.bargains[i];
                bargains[i].begin(b.club, b.man, b.first, b.last);
            }
            sherdCount = other.sherdCount;
            for (int i = 0; i < sherdCount; i++) {
                sherds[i].become(other.sherds[i]);
            }
        }

        boolean hasWard(int i) {
            return i >= 0 && i < wardCount;
        }

        boolean hasMan(int i) {
            return i >= 0 && i < manCount;
        }

        boolean hasBargain(int i) {
            return i >= 0 && i < bargainCount;
        }

        boolean hasSherd(int i) {
            return i >= 0 && i < sherdCount;
        }

        boolean areTwoMen(int man, int other) {
            return hasMan(man) && hasMan(other) && man != other;
        }

        Law lawNow() {
            return laws[inForce < 0 ? LAWS : inForce];
        }

        int addMan(int ward, int club, int name, int father) {
            Man man = men[manCount];
            man.begin(ward, club, name, father);
            for (int i = 0; i < sherdCount; i++) {
                mean(sherds[i], man, manCount);
            }
            manCount++;
            return manCount - 1;
        }

        /** The sherd behind the last, which has begun, is there from now on. */
        int addSherd() {
            Sherd sherd = sherds[sherdCount];
            sherd.foundOn = today;
            for (int i = 0; i < manCount; i++) {
                mean(sherd, men[i], i);
            }
            sherdCount++;
            return sherdCount - 1;
        }

        /** Names never change, so whom a sherd fits is reckoned once for each two of them. */
        private void mean(Sherd sherd, Man man, int number) {
            boolean fatherFits = sherd.father == 0 || sherd.father == man.father;
            boolean wardFits = sherd.ward < 0 || sherd.ward == man.ward;
            if (!fatherFits || !wardFits) {
                return;
            }
            if (sherd.name == man.name) {
                sherd.exact |= 1 << number;
            } else if (lettersApart(sherd.name, man.name, line) <= 1) {
                sherd.near |= 1 << number;
            }
        }

        boolean isWet(int day) {
            for (int i = 0; i < wetDays; i++) {
                if (wet[i] == day) {
                    return true;
                }
            }
            return false;
        }

        /** Whether anybody new hears a word. */
        boolean passDay() {
            boolean any = false;
            for (int i = 0; i < wordCount; i++) {
                if (spread(words[i])) {
                    any = true;
                }
            }
            today++;
            return any;
        }

        private boolean spread(Word word) {
            int wardBits = 0;
            int clubBits = 0;
            for (int i = 0; i < manCount; i++) {
                if (word.heardOn[i] >= 0) {
                    wardBits |= 1 << men[i].ward;
                    clubBits |= men[i].clubBit();
                }
            }
            if (today % 3 != 0) {
                clubBits = 0;
            }
            boolean any = false;
            for (int i = 0; i < manCount; i++) {
                boolean told = (wardBits >> men[i].ward & 1) != 0 || (clubBits & men[i].clubBit()) != 0;
                if (told && word.heardOn[i] < 0) {
                    word.heardOn[i] = today + 1;
                    any = true;
                }
            }
            return any;
        }

        int dreadOf(int man, int of, int day) {
            int dread = men[man].fears[of];
            for (int i = 0; i < wordCount; i++) {
                Word w = words[i];
                if (w.about == of && w.heardOn[man] >= 0 && w.heardOn[man] <= day) {
                    dread += w.weight;
                }
            }
            return Math.max(0, Math.min(20, dread));
        }

        /** NOBODY if the club isn't bound. */
        int boundTo(int club, int day) {
            for (int i = bargainCount - 1; i >= 0; i--) {
                Bargain b = bargains[i];
                if (b.club == club && b.first <= day && day <= b.last) {
                    return b.man;
                }
            }
            return NOBODY;
        }

        boolean isSent(int man, int day, int away) {
            Man m = men[man];
            return man == away || m.wasSent() && m.sentFirst <= day && day <= m.sentLast;
        }

        boolean isThere(int man, int day, int away) {
            Ward ward = wards[men[man].ward];
            if (isSent(man, day, away) || ward.hasHarvest(day)) {
                return false;
            }
            int way = isWet(day) ? 2 * ward.minutes : ward.minutes;
            return way <= rules[LIMIT];
        }

        /** Whom a man who comes casts, with a man away; NOBODY if none. */
        int castOf(int man, int day, int away) {
            int bound = boundTo(men[man].club, day);
            if (bound >= 0 && bound != man && !isSent(bound, day, away) && isLoyal(man, bound, day, away)) {
                return bound;
            }
            int whom = NOBODY;
            int most = rules[LEAST] - 1;
            for (int i = 0; i < manCount; i++) {
                if (i != man && !isSent(i, day, away)) {
                    int dread = dreadOf(man, i, day);
                    if (dread > most) {
                        most = dread;
                        whom = i;
                    }
                }
            }
            return whom;
        }

        private boolean isLoyal(int man, int bound, int day, int away) {
            int breaks = dreadOf(man, bound, day) + rules[BREAK];
            for (int i = 0; i < manCount; i++) {
                boolean other = i != man && i != bound && !isSent(i, day, away);
                if (other && dreadOf(man, i, day) >= breaks) {
                    return false;
                }
            }
            return true;
        }

        int howManySent() {
            int sent = 0;
            for (int i = 0; i < manCount; i++) {
                if (isSent(i, today, NOBODY)) {
                    sent++;
                }
            }
            return sent;
        }

        int howManyCome() {
            int come = 0;
            for (int i = 0; i < manCount; i++) {
                if (isThere(i, today, NOBODY)) {
                    come++;
                }
            }
            return come;
        }

        void countKnown(int day, Poll poll) {
            poll.begin(manCount);
            Law law = lawNow();
            for (int i = 0; i < sherdCount; i++) {
                if (sherds[i].isKnown(day) && law.isGood(sherds[i])) {
                    poll.addSherd(sherds[i]);
                }
            }
        }

        int unlikeGate() {
            for (int g = 0; g < TRIBES; g++) {
                if (tallies[0][g] != tallies[1][g]) {
                    return g;
                }
            }
            return NONE;
        }

        int doubt() {
            int doubt = 0;
            for (int g = 0; g < TRIBES; g++) {
                doubt += Math.abs(tallies[0][g] - tallies[1][g]);
            }
            return doubt;
        }

        boolean areAlike(int sherd, int other) {
            int x = sherds[sherd].hand;
            int y = sherds[other].hand;
            int differ = 0;
            for (int i = 0; i < 4; i++) {
                differ += Math.abs(x % 10 - y % 10);
                x /= 10;
                y /= 10;
            }
            return differ <= rules[SLACK];
        }
    }

    private static final class Ward {
        int tribe;
        int minutes;
        int harvestFirst;
        int harvestLast;

        void begin(int ofTribe, int far) {
            tribe = ofTribe;
            minutes = far;
            harvestFirst = 0;
            harvestLast = -1;
        }

        void become(Ward other) {
            begin(other.tribe, other.minutes);
            harvestFirst = other.harvestFirst;
            harvestLast = other.harvestLast;
        }

        boolean hasHarvest(int day) {
            return harvestFirst <= day && day <= harvestLast;
        }
    }

    private static final class Man {
        int ward;
        int club;
        int name;
        int father;
        int hand;
        int how;
        /** -1: he was never sent. */
        int sentFirst;
        int sentLast;
        boolean recalled;
        final int[] fears = new int[MOST_MEN];

        void begin(int ofWard, int ofClub, int called, int ofFather) {
            ward = ofWard;
            club = ofClub;
            name = called;
            father = ofFather;
            hand = 0;
            how = 0;
            sentFirst = -1;
            sentLast = -1;
            recalled = false;
            for (int i = 0; i < MOST_MEN; i++) {
                fears[i] = 0;
            }
        }

        void become(Man other) {
            begin(other.ward, other.club, other.name, other.father);
            hand = other.hand;
            how = other.how;
            sentFirst = other.sentFirst;
            sentLast = other.sentLast;
            recalled = other.recalled;
            System.arraycopy(other.fears, 0, fears, 0, MOST_MEN);
        }

        boolean wasSent() {
            return sentFirst >= 0;
        }

        boolean writesFathers() {
            return (how & 1) != 0;
        }

        boolean writesWards() {
            return (how & 2) != 0;
        }

        int clubBit() {
            return club < 0 ? 0 : 1 << club;
        }

        int kind() {
            if (!wasSent()) {
                return -1;
            }
            return recalled ? RECALLED : SENT;
        }
    }

    private static final class Word {
        int about;
        int weight;
        /** By men; -1: not heard. */
        final int[] heardOn = new int[MOST_MEN];

        void begin(int aboutMan, int heavy) {
            about = aboutMan;
            weight = heavy;
            for (int i = 0; i < MOST_MEN; i++) {
                heardOn[i] = -1;
            }
        }

        void become(Word other) {
            about = other.about;
            weight = other.weight;
            System.arraycopy(other.heardOn, 0, heardOn, 0, MOST_MEN);
        }
    }

    private static final class Bargain {
        int club;
        int man;
        int first;
        int last;

        void begin(int ofClub, int onMan, int from, int to) {
            club = ofClub;
            man = onMan;
            first = from;
            last = to;
        }
    }

    private static final class Sherd {
        int name;
        int father;
        int ward;
        int gate;
        int second;
        boolean ready;
        int hand;
        int foundOn;
        /** -1: not thrown. */
        int thrownOn;
        /** Men it fits exactly, and those it fits but not so. */
        int exact;
        int near;

        void begin(int called, int ofFather, int ofWard, int throughGate) {
            name = called;
            father = ofFather;
            ward = ofWard;
            gate = throughGate;
            second = 0;
            ready = false;
            hand = 0;
            foundOn = 0;
            thrownOn = -1;
            exact = 0;
            near = 0;
        }

        void become(Sherd other) {
            begin(other.name, other.father, other.ward, other.gate);
            second = other.second;
            ready = other.ready;
            hand = other.hand;
            foundOn = other.foundOn;
            thrownOn = other.thrownOn;
            exact = other.exact;
            near = other.near;
        }

        int meant() {
            return exact != 0 ? exact : near;
        }

        boolean isSure() {
            return Integer.bitCount(exact) == 1;
        }

        int howMeant() {
            int many = Integer.bitCount(meant());
            if (many > 1) {
                return 3;
            }
            if (many == 0) {
                return 0;
            }
            return isSure() ? 1 : 2;
        }

        int gateBit() {
            return gate < 0 ? 0 : 1 << gate;
        }

        boolean isKnown(int day) {
            return foundOn <= day && (thrownOn < 0 || thrownOn > day);
        }

        int kind() {
            if (meant() == 0 || second != 0) {
                return VOID;
            }
            return ready ? READY : SHERD;
        }
    }

    /** How many sherds or casts there are for each man. */
    private static final class Poll {
        int men;
        int total;
        final int[] least = new int[MOST_MEN];
        final int[] most = new int[MOST_MEN];
        /** By men, as bits: the gates of those that are sure. */
        final int[] gates = new int[MOST_MEN];
        final int[] through = new int[TRIBES];

        void begin(int howManyMen) {
            men = howManyMen;
            total = 0;
            for (int i = 0; i < men; i++) {
                least[i] = 0;
                most[i] = 0;
                gates[i] = 0;
            }
            for (int g = 0; g < TRIBES; g++) {
                through[g] = 0;
            }
        }

        void addSherd(Sherd sherd) {
            total++;
            if (sherd.gate >= 0) {
                through[sherd.gate]++;
            }
            int meant = sherd.meant();
            boolean sure = sherd.isSure();
            for (int i = 0; i < men; i++) {
                if ((meant >> i & 1) != 0) {
                    most[i]++;
                    if (sure) {
                        least[i]++;
                        gates[i] |= sherd.gateBit();
                    }
                }
            }
        }

        void addCast(int man, int gate) {
            total++;
            least[man]++;
            gates[man] |= 1 << gate;
        }

        /** NOBODY without men. */
        int firstMan() {
            int first = NOBODY;
            for (int i = 0; i < men; i++) {
                if (first < 0 || least[i] > least[first]) {
                    first = i;
                }
            }
            return first;
        }

        int leastOf(int man) {
            return man < 0 ? 0 : least[man];
        }

        int secondTo(int first) {
            int second = 0;
            for (int i = 0; i < men; i++) {
                if (i != first && least[i] > second) {
                    second = least[i];
                }
            }
            return second;
        }

        int tribesFor(int man) {
            return man < 0 ? 0 : Integer.bitCount(gates[man]);
        }

        int whoGoes(Law law) {
            int first = firstMan();
            if (leastOf(first) <= 0) {
                return NONE;
            }
            return law.isEnough(total, least[first], secondTo(first), tribesFor(first)) ? first : NONE;
        }

        boolean isCertain(Law law) {
            int who = whoGoes(law);
            if (who < 0) {
                return false;
            }
            for (int i = 0; i < men; i++) {
                if (i != who && most[i] >= least[who]) {
                    return false;
                }
            }
            return true;
        }
    }

    /** A law, its conditions as code for a small stack: op * 65536 + a number. */
    private static final class Law {
        /** Each op takes a byte of the text at least, but for one TRUTH behind three bytes or at the end. */
        static final int MOST_CODE = MOST_TAPE + 20;

        boolean wasRead;
        int years = 10;
        final int[] code = new int[MOST_CODE];
        int codeSize;
        /** By lines: where its code begins (-1: it isn't told) and ends. */
        final int[] begins = {-1, -1, -1, -1};
        final int[] ends = new int[YEARS];
        final int[] facts = new int[7];
        final int[] stack = new int[40];

        void beginEmpty() {
            wasRead = true;
            years = 10;
            codeSize = 0;
            for (int i = 0; i < YEARS; i++) {
                begins[i] = -1;
                ends[i] = 0;
            }
        }

        void become(Law other) {
            wasRead = other.wasRead;
            years = other.years;
            codeSize = other.codeSize;
            System.arraycopy(other.code, 0, code, 0, codeSize);
            System.arraycopy(other.begins, 0, begins, 0, YEARS);
            System.arraycopy(other.ends, 0, ends, 0, YEARS);
        }

        void emit(int op, int v) {
            if (codeSize < MOST_CODE) {
                code[codeSize] = op << 16 | v;
                codeSize++;
            }
        }

        boolean tells(int line) {
            return begins[line] >= 0;
        }

        boolean isGood(Sherd s) {
            boolean named = s.meant() != 0;
            if (!tells(GOOD)) {
                return named;
            }
            facts[0] = asAnswer(named);
            facts[1] = asAnswer(s.isSure());
            facts[2] = asAnswer(s.father != 0);
            facts[3] = asAnswer(s.ward >= 0);
            facts[4] = asAnswer(s.gate >= 0);
            facts[5] = asAnswer(s.second != 0);
            facts[6] = asAnswer(s.ready);
            return holds(GOOD);
        }

        boolean isEnough(int total, int first, int second, int tribes) {
            if (!tells(ENOUGH)) {
                return first > 0;
            }
            facts[0] = total;
            facts[1] = first;
            facts[2] = second;
            facts[3] = tribes;
            return holds(ENOUGH);
        }

        boolean recalls(int yes, int total) {
            if (!tells(RECALL)) {
                return yes + yes > total;
            }
            facts[0] = yes;
            facts[1] = total;
            return holds(RECALL);
        }

        boolean allows(int days) {
            facts[0] = days;
            facts[1] = years;
            return tells(MAY) && holds(MAY);
        }

        private boolean holds(int line) {
            int top = 0;
            for (int i = begins[line]; i < ends[line]; i++) {
                top = step(code[i] >> 16, code[i] & 65535, top);
            }
            return top > 0 && stack[top - 1] != 0;
        }

        /** Runs an op with so many numbers on the stack: how many there are behind it. */
        private int step(int op, int v, int top) {
            if (op == NUMBER || op == FACT) {
                if (top >= stack.length || op == FACT && v >= facts.length) {
                    return top;
                }
                stack[top] = op == FACT ? facts[v] : v;
                return top + 1;
            }
            boolean ofOne = op == NOT || op == TRUTH;
            if (top < (ofOne ? 1 : 2)) {
                return top;
            }
            if (ofOne) {
                boolean truth = stack[top - 1] != 0;
                stack[top - 1] = truth == (op == TRUTH) ? 1 : 0;
                return top;
            }
            int x = stack[top - 2];
            int y = stack[top - 1];
            switch (op) {
                case ADD: x += y; break;
                case SUB: x -= y; break;
                case LESS: x = x < y ? 1 : 0; break;
                case EQUAL: x = x == y ? 1 : 0; break;
                case MORE: x = x > y ? 1 : 0; break;
                case AND: x &= y; break;
                default: x |= y; break;
            }
            stack[top - 2] = x;
            return top - 1;
        }
    }

    /** Reads a law from the tape, from left to right, with a stack of ops that wait for what is behind them. */
    private static final class LawReader {
        static final String LINES = "good enough recall may years";
        static final String GOOD_FACTS = "name sure father ward gate two ready";
        static final String ENOUGH_FACTS = "total first second tribes";
        static final String RECALL_FACTS = "yes total";
        static final String MAY_FACTS = "days years";
        static final int MOST_OPEN = 5, MOST_DIGITS = 4, MOST_YEARS = 50;

        /** What may come next. */
        static final int AT_LINE = 0, AT_YEARS = 1, AT_ONE = 2, AT_TERM = 3, BEHIND_TERM = 4, BEHIND_ONE = 5;
        static final int BEHIND_YEARS = 6;
        /** Sorts of what stands on the tape; any other byte is its own sort, and none of these. */
        static final int LETTERS_ROW = 'a', DIGITS_ROW = '0', TAPE_END = -1;

        final int[] tape = new int[MOST_TAPE];
        int size;
        final Law draft = new Law();
        private int state;
        private int line;
        private int told;
        private int open;
        private boolean signed;
        private int sort;
        private int start;
        private int end;
        private final int[] waiting = new int[MOST_TAPE];
        private int waits;

        /** How many lines the text has, or -100 less its fault. */
        int useTape() {
            draft.beginEmpty();
            state = AT_LINE;
            told = 0;
            open = 0;
            waits = 0;
            end = 0;
            boolean goesOn = true;
            find();
            for (int i = 0; i < MOST_TAPE && goesOn && sort != TAPE_END; i++) {
                goesOn = accept();
                if (goesOn) {
                    find();
                }
            }
            size = 0;
            return goesOn && state == AT_LINE ? Integer.bitCount(told) : -100 - start;
        }

        private static boolean isLetter(int b) {
            return b >= 'a' && b <= 'z';
        }

        private static boolean isDigit(int b) {
            return b >= '0' && b <= '9';
        }

        /** Finds the next word, number or other byte. */
        private void find() {
            start = end;
            while (start < size && tape[start] == ' ') {
                start++;
            }
            end = start;
            if (start >= size) {
                sort = TAPE_END;
            } else if (isLetter(tape[start])) {
                sort = LETTERS_ROW;
                while (end < size && isLetter(tape[end])) {
                    end++;
                }
            } else if (isDigit(tape[start])) {
                sort = DIGITS_ROW;
                while (end < size && isDigit(tape[end])) {
                    end++;
                }
            } else {
                sort = tape[start];
                end++;
            }
        }

        /** Which of some words, parted by blanks, stands here; -1: none. */
        private int among(String words) {
            int which = 0;
            int from = 0;
            for (int i = 0; i <= words.length(); i++) {
                if (i == words.length() || words.charAt(i) == ' ') {
                    if (spells(words, from, i)) {
                        return which;
                    }
                    which++;
                    from = i + 1;
                }
            }
            return -1;
        }

        private boolean spells(String words, int from, int to) {
            if (to - from != end - start) {
                return false;
            }
            for (int i = from; i < to; i++) {
                if (words.charAt(i) != tape[start + i - from]) {
                    return false;
                }
            }
            return true;
        }

        /** The number here; -1: there is none, or a longer one than may be. */
        private int number() {
            if (sort != DIGITS_ROW || end - start > MOST_DIGITS) {
                return -1;
            }
            int v = 0;
            for (int i = start; i < end; i++) {
                v = v * 10 + tape[i] - '0';
            }
            return v;
        }

        private boolean accept() {
            switch (state) {
                case AT_LINE: return acceptLine();
                case AT_YEARS: return acceptYears();
                case AT_ONE: return acceptOne();
                case AT_TERM: return acceptTerm();
                case BEHIND_TERM: return acceptBehindTerm();
                case BEHIND_ONE: return acceptBehindOne();
                default: return acceptLineEnd();
            }
        }

        private boolean acceptLine() {
            line = among(LINES);
            if (line < 0 || (told >> line & 1) != 0) {
                return false;
            }
            told |= 1 << line;
            state = line == YEARS ? AT_YEARS : AT_ONE;
            if (line < YEARS) {
                draft.begins[line] = draft.codeSize;
            }
            return true;
        }

        private boolean acceptYears() {
            int years = number();
            if (years < 0 || years > MOST_YEARS) {
                return false;
            }
            draft.years = years;
            state = BEHIND_YEARS;
            return true;
        }

        private boolean acceptOne() {
            if (among("not") == 0) {
                delay(NOT);
                return true;
            }
            if (sort == '(') {
                open++;
                delay(OPEN);
                return open <= MOST_OPEN;
            }
            signed = false;
            return acceptTerm();
        }

        private boolean acceptTerm() {
            int number = number();
            int fact = among(factsOfLine());
            if (number < 0 && fact < 0) {
                return false;
            }
            draft.emit(number < 0 ? FACT : NUMBER, number < 0 ? fact : number);
            state = BEHIND_TERM;
            return true;
        }

        private String factsOfLine() {
            switch (line) {
                case GOOD: return GOOD_FACTS;
                case ENOUGH: return ENOUGH_FACTS;
                case RECALL: return RECALL_FACTS;
                default: return MAY_FACTS;
            }
        }

        private boolean acceptBehindTerm() {
            if (sort == '+' || sort == '-') {
                settle(ADD);
                delay(sort == '+' ? ADD : SUB);
                state = AT_TERM;
                return true;
            }
            if (!signed && (sort == '<' || sort == '=' || sort == '>')) {
                settle(ADD);
                delay(LESS + sort - '<');
                signed = true;
                state = AT_TERM;
                return true;
            }
            settle(LESS);
            if (!signed) {
                draft.emit(TRUTH, 0);
            }
            return acceptBehindOne();
        }

        private boolean acceptBehindOne() {
            int joint = among("and or");
            if (joint >= 0) {
                int op = joint == 0 ? AND : OR;
                settle(op);
                delay(op);
                state = AT_ONE;
                return true;
            }
            if (sort == ')' && open > 0) {
                settle(OR);
                waits = Math.max(0, waits - 1);
                open--;
                state = BEHIND_ONE;
                return true;
            }
            return open == 0 && acceptLineEnd();
        }

        private boolean acceptLineEnd() {
            if (sort != ';') {
                return false;
            }
            settle(OR);
            if (line < YEARS) {
                draft.ends[line] = draft.codeSize;
            }
            state = AT_LINE;
            return true;
        }

        private void delay(int op) {
            if (waits < waiting.length) {
                waiting[waits] = op;
                waits++;
            }
        }

        /** What waits and binds as strongly as an op, or more so, is done ahead of it. */
        private void settle(int op) {
            while (waits > 0 && waiting[waits - 1] >> 2 >= op >> 2) {
                waits--;
                draft.emit(waiting[waits], 0);
            }
        }
    }

    /** A thing that acts: what is written under a kind runs ahead of what is above it. */
    private static final class Actor {
        int kind;
        int n;
        int a;
        final int[] trace = new int[MOST_TRACE];
        int traced;
        private boolean parted;

        void forget() {
            traced = 0;
            parted = false;
        }

        int perform(int act, int x) {
            int answer;
            switch (act) {
                case 0: answer = names(x); break;
                case 1: answer = counts(x); break;
                case 2: answer = binds(x); break;
                default: answer = tells(x); break;
            }
            return parted ? PARTED_BY_ZERO : answer;
        }

        private void runs(int body) {
            if (traced < MOST_TRACE) {
                trace[traced] = body;
                traced++;
            }
        }

        private boolean isSherd() {
            return kind == SHERD || kind == READY || kind == VOID;
        }

        // Every body that is written under another one asks that one first, so one method an act runs them all.

        private int names(int x) {
            if (kind == READY) {
                runs(30);
            }
            if (kind == BARGAIN) {
                runs(51);
            }
            runs(10);
            int told = kind == BARGAIN ? x - 1 + n : x + n;
            return kind == READY ? told * 3 : told;
        }

        private int counts(int x) {
            if (kind == VOID) {
                runs(40);
            }
            if (isSherd()) {
                runs(20);
            }
            runs(11);
            int told = names(x) * 2;
            if (isSherd()) {
                told ^= a;
            }
            return kind == VOID ? 0 - told : told;
        }

        private int binds(int x) {
            switch (kind) {
                case VOID: runs(41); break;
                case BARGAIN: runs(50); break;
                case RECALLED: runs(70); break;
                default: break;
            }
            runs(12);
            int told = counts(x) - a;
            switch (kind) {
                case VOID: return told + names(2);
                case BARGAIN: return told * 2;
                case RECALLED: return told - 1;
                default: return told;
            }
        }

        private int tells(int x) {
            boolean sent = kind == SENT || kind == RECALLED;
            if (kind == RECALLED) {
                runs(71);
            }
            if (sent) {
                runs(60);
            }
            if (isSherd()) {
                runs(21);
            }
            runs(13);
            if (a == n) {
                parted = true;
                return 0;
            }
            int told = (sent ? x + 7 : x) / (a - n);
            if (sent) {
                told -= names(x);
            }
            if (isSherd()) {
                told++;
            }
            return kind == RECALLED ? 0 - told : told;
        }
    }

    /** A sheet's row. Its items are kept as item() tells them: no more of a long can come in than an int holds. */
    private static final class Row {
        static final int BYTES = 0, SHORTS = 1, INTS = 2, BOOLEANS = 4, SORTS = 5;

        final int sort;
        final int[] items;

        Row(int ofSort, int n) {
            sort = ofSort;
            items = new int[n < 0 ? 0 : n];
        }

        int narrowed(int v) {
            switch (sort) {
                case BYTES: return (byte) v;
                case SHORTS: return (short) v;
                case BOOLEANS: return v != 0 ? 1 : 0;
                default: return v;
            }
        }
    }
}
