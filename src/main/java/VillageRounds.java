/**
 * A village on a hill whose plots give for a few years and must lie long after.
 * ../shared/DOC.md says what each call does; README.md says how this file is laid out.
 * Every row is made in a constructor and used again, so that no call makes an object.
 */
public final class VillageRounds {
    public static final int NONE = -1, BAD = -2, STATE = -3, FULL = -4;
    /** There is no such number. */
    public static final long NO = Long.MIN_VALUE;

    private static final int NEVER = -5, OTHER_KIND = -6, NO_ROUND = -9, FAULT = -10, BAD_YEAR = -1002;

    private static final int MOST_PLOTS = 8, MOST_RULES = 8, MOST_LANDS = 5, MOST_ROW = 12, MOST_AGES = 10;
    private static final int MOST_BYTES = 120, MOST_CLAUSES = 10, MOST_OPEN = 5;
    private static final int MOST_SOIL = 3, MOST_PLACE = 40, MOST_LAIN = 30, MOST_WORN = 9, MOST_MOUTHS = 99;
    private static final int MOST_V = 30, MOST_YEARS = 30, MOST_RAINS = 6, MOST_AGE = 99, MOST_OFF = 9;
    private static final int MOST_EVER = 200, MOST_TRACE = 20, MOST_DEPTH = 30;

    private static final int KINDS = 7;
    private static final int RULE = 0, ROUND = 1, REST = 2, NEAR = 3, BEST = 4, STAY = 5, LONG = 6;
    /** The kind above each kind. */
    private static final int[] ABOVE = {-1, RULE, RULE, RULE, NEAR, REST, REST};

    private static final int GIVE = 0, WEAR = 1, WALK = 2, MOVE = 3, GROW = 4, DRY = 5, WORDS = 6;
    private static final int NOT = -1, AND = -2, OR = -3;

    private static final int ACTS = 3;
    private static final int BURNS = 0, RESTS = 1, TELLS = 2;
    /** The number of the body of each kind (a row each) for each act; 0: it has none. */
    private static final int[] BODIES = {
        1, 2, 3,
        11, 0, 0,
        0, 21, 0,
        0, 0, 31,
        0, 0, 41,
        51, 0, 0,
        0, 61, 0
    };

    private final World now = new World();
    private final World kept = new World();
    private boolean hasImage;
    private final Land draft = new Land();
    private final Reader reader = new Reader(now.tape, draft);
    private final Trial trial = new Trial(now);
    private final Circle circle = new Circle(trial);
    private final Play play = new Play();

    public VillageRounds() {
    }

    // ---- plots, lands

    public int plot(int soil, int place) {
        if (!within(soil, 0, MOST_SOIL) || !within(place, 0, MOST_PLACE)) {
            return BAD;
        }
        return now.hill.plots >= MOST_PLOTS ? FULL : now.hill.add(soil, place);
    }

    public int of(int plot, int what) {
        if (!now.hill.has(plot)) {
            return NONE;
        }
        switch (what) {
            case 0: return now.hill.soil[plot];
            case 1: return now.hill.place[plot];
            case 2: return now.hill.crop[plot];
            case 3: return now.hill.lain[plot];
            case 4: return now.hill.worn[plot];
            default: return NONE;
        }
    }

    public int lies(int plot, int y) {
        if (!now.hill.has(plot)) {
            return NONE;
        }
        if (!within(y, 0, MOST_LAIN)) {
            return BAD;
        }
        int before = now.hill.lain[plot];
        now.hill.lain[plot] = y;
        now.hill.crop[plot] = 0;
        return before;
    }

    public int feed(long w, int n) {
        if (!within(n, 1, 8)) {
            return BAD;
        }
        if (now.tape.size + n > MOST_BYTES) {
            return FULL;
        }
        for (int i = n - 1; i >= 0; i--) {
            now.tape.put((int) (w >>> (8 * i)) & 255);
        }
        return now.tape.size;
    }

    public int land() {
        if (now.lands >= MOST_LANDS) {
            return FULL;
        }
        int fault = reader.fault();
        now.tape.size = 0;
        if (fault >= 0) {
            return FAULT - fault;
        }
        now.land.become(draft);
        now.lands++;
        return now.lands - 1;
    }

    public int set(int what, int n) {
        if (!within(what, 0, 1)) {
            return NONE;
        }
        if (what == 0 ? !within(n, 0, MOST_PLACE) : !within(n, 1, MOST_MOUTHS)) {
            return BAD;
        }
        int before = what == 0 ? now.hill.village : now.hill.mouths;
        if (what == 0) {
            now.hill.village = n;
        } else {
            now.hill.mouths = n;
        }
        return before;
    }

    public int gives(int plot) {
        if (!now.hill.has(plot)) {
            return NONE;
        }
        trial.begin();
        return trial.chief.gift(plot, now.hill.village, now.land.walk);
    }

    // ---- years, rules

    public int year(int plots, int place) {
        if (!within(plots, 0, now.hill.all()) || !within(place, 0, MOST_PLACE)) {
            return BAD_YEAR;
        }
        trial.begin();
        trial.spend(plots, place, true);
        now.hill.become(trial.hill);
        return trial.harvest;
    }

    public int rule(int kind, int v) {
        if (!within(kind, 0, KINDS - 1)) {
            return NONE;
        }
        if (!within(v, 1, MOST_V)) {
            return BAD;
        }
        if (now.kinds.size >= MOST_RULES) {
            return FULL;
        }
        now.leads.put(v);
        return now.kinds.put(kind) - 1;
    }

    public int burns(int rule) {
        if (!now.hasRule(rule)) {
            return NONE;
        }
        beginRule(rule);
        return trial.chief.picks(now.hill.village);
    }

    public int moves(int rule) {
        if (!now.hasRule(rule)) {
            return NONE;
        }
        beginRule(rule);
        return trial.chief.goal();
    }

    public int go(int rule, int n) {
        if (!now.hasRule(rule)) {
            return NONE;
        }
        if (!within(n, 1, MOST_YEARS)) {
            return BAD;
        }
        beginRule(rule);
        trial.spendYears(n, true);
        now.hill.become(trial.hill);
        return trial.hungers;
    }

    // ---- rows, rounds

    public int row(int plots) {
        if (plots == -1) {
            now.row.size = 0;
            return 0;
        }
        if (!within(plots, 0, (1 << MOST_PLOTS) - 1)) {
            return BAD;
        }
        return now.row.size >= MOST_ROW ? FULL : now.row.put(plots);
    }

    public int judged() {
        trial.begin();
        for (int i = 0; i < now.row.size; i++) {
            trial.spend(now.row.at(i) & now.hill.all(), now.hill.village, true);
        }
        return trial.firstHunger;
    }

    public int proof(int rule, int n, int what) {
        if (!now.hasRule(rule) || !within(what, 0, 2)) {
            return NONE;
        }
        if (!within(n, 1, MOST_YEARS)) {
            return BAD;
        }
        trial.chief.follow(now.kinds.at(rule), now.leads.at(rule));
        if (what == 2) {
            return mostMouths(n);
        }
        trial.begin();
        trial.spendYears(n, true);
        return what == 0 ? trial.firstHunger : trial.travels;
    }

    public int ever(int rule, int what) {
        if (!now.hasRule(rule) || !within(what, 0, 2)) {
            return NONE;
        }
        beginRule(rule);
        if (!circle.closes()) {
            return NO_ROUND;
        }
        return what == 0 ? circle.end : what == 1 ? circle.end - circle.start : circle.leastHarvest();
    }

    public int less(int n) {
        if (!within(n, 1, MOST_YEARS)) {
            return BAD;
        }
        for (int v = 1; v <= MOST_V; v++) {
            trial.chief.follow(REST, v);
            trial.begin();
            if (trial.staysFed(n, true) && !trial.hill.isMoreWornThan(now.hill)) {
                return v;
            }
        }
        return NEVER;
    }

    public long safe(int rule, int n, int part) {
        if (!now.hasRule(rule) || !within(n, 1, MOST_RAINS) || !within(part, 0, 1)) {
            return NO;
        }
        beginRule(rule);
        long above = 1;
        long below = 1;
        for (int i = 0; i < n; i++) {
            trial.spendYears(1, true);
            above *= trial.fedOfTen();
            below *= 10;
        }
        long common = commonDivisor(above, below);
        if (common <= 0) {
            return NO;
        }
        return (part == 0 ? above : below) / common;
    }

    public int two(int place) {
        if (!within(place, 0, MOST_PLACE)) {
            return BAD;
        }
        trial.begin();
        int half = (now.hill.mouths + 1) / 2;
        int found = 0;
        for (int set = 0; set <= now.hill.all(); set++) {
            boolean fed = trial.chief.giftOf(set, now.hill.village) >= half;
            if (fed && trial.chief.giftOf(now.hill.all() & ~set, place) >= half) {
                found++;
            }
        }
        return found;
    }

    public int way(int n) {
        if (!within(n, 0, MOST_PLACE)) {
            return BAD;
        }
        trial.begin();
        int more = 0;
        for (int i = 0; i < now.hill.plots; i++) {
            more += trial.chief.gift(i, now.hill.village, now.land.walk + n);
            more -= trial.chief.gift(i, now.hill.village, now.land.walk);
        }
        return more;
    }

    public int age(int n) {
        if (n == -1) {
            now.ages.size = 0;
            return 0;
        }
        if (!within(n, 0, MOST_AGE)) {
            return BAD;
        }
        return now.ages.size >= MOST_AGES ? FULL : now.ages.put(n);
    }

    public int round(int n) {
        if (!within(n, 0, MOST_OFF)) {
            return BAD;
        }
        for (int length = 1; length <= MOST_YEARS; length++) {
            if (tells(length, n)) {
                return length;
            }
        }
        return NEVER;
    }

    // ---- acts, the image

    public int act(int rule, int act, int x) {
        play.ran = 0;
        if (!now.hasRule(rule) || !within(act, 0, ACTS - 1)) {
            return 0;
        }
        return play.perform(now.kinds.at(rule), now.leads.at(rule), rule, act, x);
    }

    public int trace(int i) {
        return within(i, 0, Math.min(play.ran, MOST_TRACE) - 1) ? play.trace[i] : NONE;
    }

    public int as(int rule, int k) {
        if (!now.hasRule(rule) || !within(k, 0, KINDS - 1)) {
            return NONE;
        }
        int kind = now.kinds.at(rule);
        for (int i = 0; i < KINDS && within(kind, 0, KINDS - 1); i++) {
            if (kind == k) {
                return now.leads.at(rule);
            }
            kind = ABOVE[kind];
        }
        return OTHER_KIND;
    }

    public int image() {
        kept.become(now);
        hasImage = true;
        return now.hill.plots;
    }

    public int undo() {
        if (!hasImage) {
            return STATE;
        }
        now.become(kept);
        return now.hill.plots;
    }

    public int count(int what) {
        switch (what) {
            case 0: return now.hill.plots;
            case 1: return now.kinds.size;
            case 2: return now.lands;
            case 3: return now.hill.year;
            case 4: return now.tape.size;
            case 5: return now.row.size;
            case 6: return now.ages.size;
            case 7: return play.ran;
            default: return NONE;
        }
    }

    private static boolean within(int n, int least, int most) {
        return n >= least && n <= most;
    }

    private void beginRule(int rule) {
        trial.chief.follow(now.kinds.at(rule), now.leads.at(rule));
        trial.begin();
    }

    /** A rule may feed many and fail with fewer, so each number is tried, from the greatest on. */
    private int mostMouths(int n) {
        for (int mouths = MOST_MOUTHS; mouths >= 1; mouths--) {
            trial.begin();
            trial.hill.mouths = mouths;
            if (trial.staysFed(n, false)) {
                return mouths;
            }
        }
        return 0;
    }

    private boolean tells(int length, int off) {
        for (int i = 0; i < now.ages.size; i++) {
            if (offMultiple(now.ages.at(i), length) > off) {
                return false;
            }
        }
        return true;
    }

    /** How far an age is from the nearest multiple of a length. */
    private static int offMultiple(int age, int length) {
        if (length <= 0) {
            return age;
        }
        int behind = age % length;
        return Math.min(behind, length - behind);
    }

    private static long commonDivisor(long a, long b) {
        for (int i = 0; i < 100 && b != 0; i++) {
            long rest = a % b;
            a = b;
            b = rest;
        }
        return a;
    }

    /** Numbers told one behind the other, up to a bound. */
    private static final class Numbers {
        final int[] items;
        int size;

        Numbers(int most) {
            items = new int[Math.max(most, 0)];
        }

        int at(int i) {
            return i >= 0 && i < size && i < items.length ? items[i] : 0;
        }

        int put(int n) {
            if (size >= 0 && size < items.length) {
                items[size] = n;
                size++;
            }
            return size;
        }

        void become(Numbers other) {
            size = 0;
            for (int i = 0; i < other.size; i++) {
                put(other.at(i));
            }
        }
    }

    /** All that an image keeps. */
    private static final class World {
        final Hill hill = new Hill();
        final Land land = new Land();
        final Numbers tape = new Numbers(MOST_BYTES);
        final Numbers row = new Numbers(MOST_ROW);
        final Numbers ages = new Numbers(MOST_AGES);
        /** The kind of each rule. */
        final Numbers kinds = new Numbers(MOST_RULES);
        /** The number v that leads each rule. */
        final Numbers leads = new Numbers(MOST_RULES);
        int lands;

        boolean hasRule(int rule) {
            return rule >= 0 && rule < kinds.size;
        }

        void become(World other) {
            hill.become(other.hill);
            land.become(other.land);
            tape.become(other.tape);
            row.become(other.row);
            ages.become(other.ages);
            kinds.become(other.kinds);
            leads.become(other.leads);
            lands = other.lands;
        }
    }

    /** The plots, the village and its year. */
    private static final class Hill {
        final int[] soil = new int[MOST_PLOTS];
        final int[] place = new int[MOST_PLOTS];
        /** Which year under crop; 0: the plot lies. */
        final int[] crop = new int[MOST_PLOTS];
        final int[] lain = new int[MOST_PLOTS];
        final int[] worn = new int[MOST_PLOTS];
        int plots;
        int village;
        int mouths = 10;
        int year;

        boolean has(int i) {
            return i >= 0 && i < plots && i < MOST_PLOTS;
        }

        /** The set of all plots. */
        int all() {
            return (1 << plots) - 1;
        }

        int add(int itsSoil, int itsPlace) {
            int i = plots;
            if (i >= 0 && i < MOST_PLOTS) {
                soil[i] = itsSoil;
                place[i] = itsPlace;
                crop[i] = 0;
                lain[i] = MOST_LAIN;
                worn[i] = 0;
                plots++;
            }
            return i;
        }

        void become(Hill other) {
            for (int i = 0; i < MOST_PLOTS; i++) {
                soil[i] = other.soil[i];
                place[i] = other.place[i];
                crop[i] = other.crop[i];
                lain[i] = other.lain[i];
                worn[i] = other.worn[i];
            }
            plots = other.plots;
            village = other.village;
            mouths = other.mouths;
            year = other.year;
        }

        boolean isMoreWornThan(Hill before) {
            for (int i = 0; i < MOST_PLOTS; i++) {
                if (i < plots && worn[i] > before.worn[i]) {
                    return true;
                }
            }
            return false;
        }

        /** A year passes with a set burnt; what it gives has been told before. */
        void pass(int set, int to, Land land) {
            village = to;
            for (int i = 0; i < MOST_PLOTS && i < plots; i++) {
                if ((set >> i & 1) != 0) {
                    worn[i] = land.wornWhenBurnt(this, i);
                    crop[i]++;
                } else if (crop[i] > 0) {
                    crop[i] = 0;
                    lain[i] = 0;
                } else {
                    lain[i] = Math.min(lain[i] + 1, MOST_LAIN);
                }
            }
            year++;
        }

        void growMouths(int grow) {
            mouths = Math.min(mouths + (mouths * grow + 99) / 100, MOST_MOUTHS);
        }

        /** The state of a plot as one number, other for each other state. */
        int mark(int i) {
            return has(i) ? (crop[i] * (MOST_LAIN + 1) + lain[i]) * (MOST_WORN + 1) + worn[i] : 0;
        }
    }

    /** What a land says. Each give and wear has its condition as steps, an operator behind what it joins. */
    private static final class Land {
        private static final int IS_WEAR = -1;

        /** What each clause gives, or IS_WEAR. */
        private final int[] gives = new int[MOST_CLAUSES];
        /** Where the steps of each clause end. */
        private final int[] ends = new int[MOST_CLAUSES];
        private final int[] steps = new int[MOST_BYTES];
        private int clauses;
        private int used;
        int walk;
        int move;
        int grow;
        int dry;
        /** What the letters c, y, s, w, p of a test mean for the plot looked at. */
        private final int[] seen = new int[5];

        Land() {
            clear();
        }

        void clear() {
            clauses = 0;
            used = 0;
            walk = 99;
            move = 0;
            grow = 0;
            dry = 0;
        }

        void become(Land other) {
            for (int i = 0; i < MOST_CLAUSES; i++) {
                gives[i] = other.gives[i];
                ends[i] = other.ends[i];
            }
            for (int i = 0; i < MOST_BYTES; i++) {
                steps[i] = other.steps[i];
            }
            clauses = other.clauses;
            used = other.used;
            walk = other.walk;
            move = other.move;
            grow = other.grow;
            dry = other.dry;
        }

        void putStep(int step) {
            if (used >= 0 && used < MOST_BYTES) {
                steps[used] = step;
                used++;
            }
        }

        /** Its condition is what has been put as steps since the clause before. */
        void putGive(int n) {
            if (clauses >= 0 && clauses < MOST_CLAUSES) {
                gives[clauses] = n;
                ends[clauses] = used;
                clauses++;
            }
        }

        void putWear() {
            putGive(IS_WEAR);
        }

        void putNumber(int word, int n) {
            switch (word) {
                case WALK: walk = n; break;
                case MOVE: move = n; break;
                case GROW: grow = n; break;
                case DRY: dry = Math.min(n, 10); break;
                default: break;
            }
        }

        int wornWhenBurnt(Hill hill, int plot) {
            if (!hill.has(plot)) {
                return 0;
            }
            int worn = hill.worn[plot];
            if (hill.crop[plot] > 0) {
                return worn;
            }
            look(hill, plot, worn);
            for (int i = 0; i < clauses; i++) {
                if (i < MOST_CLAUSES && gives[i] == IS_WEAR && holds(i)) {
                    return Math.min(worn + 1, MOST_WORN);
                }
            }
            return worn;
        }

        /** What a plot gives, burnt this year and then so worn, to a village near enough. */
        int yields(Hill hill, int plot, int worn) {
            look(hill, plot, worn);
            int sum = 0;
            for (int i = 0; i < clauses; i++) {
                if (i < MOST_CLAUSES && gives[i] != IS_WEAR && holds(i)) {
                    sum += gives[i];
                }
            }
            return Math.max(sum - worn, 0);
        }

        private void look(Hill hill, int plot, int worn) {
            if (hill.has(plot)) {
                seen[0] = hill.crop[plot] + 1;
                seen[1] = hill.lain[plot];
                seen[2] = hill.soil[plot];
                seen[3] = worn;
                seen[4] = hill.place[plot];
            }
        }

        /** The values that wait are the lowest bits of one number: five open ( hold fewer than 64. */
        private boolean holds(int clause) {
            if (clause < 0 || clause >= MOST_CLAUSES) {
                return false;
            }
            long waiting = 0;
            int from = clause == 0 ? 0 : ends[clause - 1];
            for (int i = Math.max(from, 0); i < ends[clause] && i < MOST_BYTES; i++) {
                switch (steps[i]) {
                    case NOT: waiting = waiting ^ 1; break;
                    case AND: waiting = waiting >>> 1 & (waiting | ~1L); break;
                    case OR: waiting = waiting >>> 1 | waiting & 1; break;
                    default: waiting = waiting << 1 | passes(steps[i]); break;
                }
            }
            return (waiting & 1) != 0;
        }

        static int testStep(int letter, int sign, int n) {
            return (letter * 3 + sign) * 100 + n;
        }

        private int passes(int step) {
            int letter = step / 300;
            if (letter < 0 || letter >= seen.length) {
                return 0;
            }
            int told = step % 100;
            int sign = seen[letter] < told ? 0 : seen[letter] == told ? 1 : 2;
            return sign == step / 100 % 3 ? 1 : 0;
        }
    }

    /** Reads a tape as a land. When a method answers no, at stands where no land can go on. */
    private static final class Reader {
        private static final int SOUND = -1;

        private final Numbers tape;
        private final Land land;
        private int at;

        Reader(Numbers tape, Land land) {
            this.tape = tape;
            this.land = land;
        }

        int fault() {
            land.clear();
            at = 0;
            for (int i = 1; i <= MOST_CLAUSES; i++) {
                if (!readClause()) {
                    return at;
                }
                if (at >= tape.size) {
                    return SOUND;
                }
                if (i == MOST_CLAUSES || !take(';')) {
                    return at;
                }
            }
            return at;
        }

        private boolean readClause() {
            int word = readWord();
            if (word < 0) {
                return false;
            }
            if (word == WEAR) {
                boolean read = readAny(0);
                land.putWear();
                return read;
            }
            int n = readNumber();
            if (n < 0) {
                return false;
            }
            if (word != GIVE) {
                land.putNumber(word, n);
                return true;
            }
            boolean read = take(' ') && readAny(0);
            land.putGive(n);
            return read;
        }

        private static String spelt(int word) {
            switch (word) {
                case GIVE: return "give ";
                case WEAR: return "wear ";
                case WALK: return "walk ";
                case MOVE: return "move ";
                case GROW: return "grow ";
                default: return "dry ";
            }
        }

        /** A word and the blank behind it; the fault is behind the longest start of any word. */
        private int readWord() {
            int longest = 0;
            for (int word = 0; word < WORDS; word++) {
                String text = spelt(word);
                int same = sameBytes(text);
                if (same == text.length()) {
                    at += same;
                    return word;
                }
                longest = Math.max(longest, same);
            }
            at += longest;
            return -1;
        }

        private int sameBytes(String text) {
            for (int i = 0; i < text.length(); i++) {
                if (tape.at(at + i) != text.charAt(i)) {
                    return i;
                }
            }
            return text.length();
        }

        /** Behind its end a tape answers 0, which is no sign. */
        private boolean sees(char sign) {
            return tape.at(at) == sign;
        }

        private boolean take(char sign) {
            if (tape.at(at) != sign) {
                return false;
            }
            at++;
            return true;
        }

        /** Which sign of a text comes, and takes it; below 0: none of them comes. */
        private int takeOf(String signs) {
            int which = signs.indexOf((char) tape.at(at));
            if (which >= 0) {
                at++;
            }
            return which;
        }

        private int readNumber() {
            int first = takeOf("0123456789");
            int second = first <= 0 ? -1 : takeOf("0123456789");
            return second < 0 ? first : first * 10 + second;
        }

        /** An | joins only when all & behind it have. */
        private boolean readAny(int open) {
            boolean orWaits = false;
            boolean read = readOne(open);
            for (int i = 0; i < MOST_BYTES && read && (sees('&') || sees('|')); i++) {
                boolean isAnd = take('&');
                if (!isAnd) {
                    at++;
                    if (orWaits) {
                        land.putStep(OR);
                    }
                    orWaits = true;
                }
                read = readOne(open);
                if (isAnd) {
                    land.putStep(AND);
                }
            }
            if (orWaits) {
                land.putStep(OR);
            }
            return read;
        }

        private boolean readOne(int open) {
            if (sees('!') || sees('(')) {
                return open < MOST_OPEN && readOpen(open + 1);
            }
            int letter = takeOf("cyswp");
            int sign = letter < 0 ? -1 : takeOf("<=>");
            int n = sign < 0 ? -1 : readNumber();
            if (n < 0) {
                return false;
            }
            land.putStep(Land.testStep(letter, sign, n));
            return true;
        }

        private boolean readOpen(int open) {
            if (take('(')) {
                return readAny(open) && take(')');
            }
            at++;
            boolean read = readOne(open);
            land.putStep(NOT);
            return read;
        }
    }

    /** Says what a rule has burnt and where the village moves, on a hill in one year. */
    private static final class Chief {
        /** Above all that a plot gives: ten clauses of 99 at most. */
        private static final int AHEAD = 1000;

        private final Hill hill;
        private final Land land;
        private int kind;
        private int v = 1;
        /** What each plot gives this year to a village near enough. */
        private final int[] ripe = new int[MOST_PLOTS];
        /** What each gives, the village being where it was last looked from. */
        private final int[] given = new int[MOST_PLOTS];
        /** The greatest is burnt first; 0: is not burnt. */
        private final int[] rank = new int[MOST_PLOTS];
        private final int[] sums = new int[1 << MOST_PLOTS];

        Chief(Hill hill, Land land) {
            this.hill = hill;
            this.land = land;
        }

        void follow(int itsKind, int itsV) {
            kind = itsKind;
            v = itsV;
        }

        /** Of a round, the year's turn; else 0. */
        int turn() {
            return kind == ROUND && v > 0 ? hill.year % v : 0;
        }

        /** Comes ahead of all else in a year. */
        void lookRound() {
            for (int i = 0; i < MOST_PLOTS; i++) {
                ripe[i] = hill.has(i) ? land.yields(hill, i, land.wornWhenBurnt(hill, i)) : 0;
            }
        }

        int gift(int plot, int village, int walk) {
            return hill.has(plot) && Math.abs(hill.place[plot] - village) <= walk ? ripe[plot] : 0;
        }

        int giftOf(int set, int village) {
            int sum = 0;
            for (int i = 0; i < MOST_PLOTS; i++) {
                if ((set >> i & 1) != 0) {
                    sum += gift(i, village, land.walk);
                }
            }
            return sum;
        }

        int goal() {
            int here = hill.village;
            int most = giftOf(picks(here), here);
            if (most >= hill.mouths) {
                return here;
            }
            int to = here;
            for (int i = 0; i < MOST_PLOTS && i < hill.plots; i++) {
                int there = hill.place[i];
                int harvest = giftOf(picks(there), there) - (there == here ? 0 : land.move);
                if (harvest > most) {
                    most = harvest;
                    to = there;
                }
            }
            return to;
        }

        int picks(int village) {
            int together = 0;
            for (int i = 0; i < MOST_PLOTS; i++) {
                given[i] = gift(i, village, land.walk);
                together += given[i];
            }
            switch (kind) {
                case ROUND: return picksInTurn();
                case BEST: return together < hill.mouths ? picksAllThatGive() : picksFewest();
                default: return picksByRank(village);
            }
        }

        private int picksInTurn() {
            int set = 0;
            for (int i = 0; i < hill.plots && v > 0; i++) {
                if (i % v == hill.year % v) {
                    set |= 1 << i;
                }
            }
            return set;
        }

        private int picksAllThatGive() {
            int set = 0;
            for (int i = 0; i < MOST_PLOTS; i++) {
                if (given[i] > 0) {
                    set |= 1 << i;
                }
            }
            return set;
        }

        /** Sets come from the least bits on, so that of like ones the first is kept. */
        private int picksFewest() {
            int best = 0;
            for (int set = 1; set <= hill.all() && set < sums.length; set++) {
                int last = Integer.numberOfTrailingZeros(set) % MOST_PLOTS;
                sums[set] = sums[set & set - 1] + given[last];
                if (sums[set] >= hill.mouths && (best == 0 || isBetter(set, best))) {
                    best = set;
                }
            }
            return best;
        }

        private boolean isBetter(int set, int other) {
            int fewer = Integer.bitCount(other) - Integer.bitCount(set);
            return fewer > 0 || fewer == 0 && sums[set] < sums[other];
        }

        private int picksByRank(int village) {
            for (int i = 0; i < MOST_PLOTS; i++) {
                rank[i] = rankOf(i, village);
            }
            int set = 0;
            int sum = 0;
            for (int i = 0; i < MOST_PLOTS && sum < hill.mouths; i++) {
                int first = firstInRank();
                if (rank[first] == 0) {
                    return set;
                }
                rank[first] = 0;
                set |= 1 << first;
                sum += given[first];
            }
            return set;
        }

        private int firstInRank() {
            int first = 0;
            for (int i = 1; i < MOST_PLOTS; i++) {
                if (rank[i] > rank[first]) {
                    first = i;
                }
            }
            return first;
        }

        private int rankOf(int i, int village) {
            if (!hill.has(i) || given[i] == 0) {
                return 0;
            }
            boolean lies = hill.crop[i] == 0;
            boolean mustLie = lies && hill.lain[i] < v;
            int far = Math.abs(hill.place[i] - village);
            switch (kind) {
                case REST: return mustLie ? 0 : given[i];
                case STAY: return mustLie ? 0 : lies ? given[i] : given[i] + AHEAD;
                case LONG: return mustLie || hill.crop[i] >= v ? 0 : given[i];
                case NEAR: return far > v ? 0 : (MOST_PLACE - far) * AHEAD + given[i];
                default: return given[i];
            }
        }
    }

    /** Years tried on a copy of the hill, so that what is asked changes nothing. */
    private static final class Trial {
        private final Hill start;
        private final Land land;
        final Hill hill = new Hill();
        final Chief chief;
        /** How many years have been tried. */
        private int years;
        int hungers;
        int firstHunger;
        /** In how many years the village moved. */
        int travels;
        /** Of the latest year. */
        int harvest;
        private boolean fedWet;
        private boolean fedDry;

        Trial(World world) {
            start = world.hill;
            land = world.land;
            chief = new Chief(hill, land);
        }

        void begin() {
            hill.become(start);
            chief.lookRound();
            years = 0;
            hungers = 0;
            firstHunger = NEVER;
            travels = 0;
        }

        void spend(int set, int to, boolean grows) {
            boolean travelled = to != hill.village;
            int cost = travelled ? land.move : 0;
            int together = chief.giftOf(set, to);
            harvest = together - cost;
            fedWet = harvest >= hill.mouths;
            fedDry = together / 2 - cost >= hill.mouths;
            if (!fedWet && hungers == 0) {
                firstHunger = years;
            }
            hungers += fedWet ? 0 : 1;
            travels += travelled ? 1 : 0;
            years++;
            hill.pass(set, to, land);
            if (grows) {
                hill.growMouths(land.grow);
            }
            chief.lookRound();
        }

        void spendYears(int n, boolean grows) {
            for (int i = 0; i < n; i++) {
                int to = chief.goal();
                spend(chief.picks(to), to, grows);
            }
        }

        /** Spends no year behind the first hungry one. */
        boolean staysFed(int n, boolean grows) {
            for (int i = 0; i < n && hungers == 0; i++) {
                int to = chief.goal();
                spend(chief.picks(to), to, grows);
            }
            return hungers == 0;
        }

        /** In how many of ten skies the latest year was not hungry. */
        int fedOfTen() {
            return (fedWet ? 10 - land.dry : 0) + (fedDry ? land.dry : 0);
        }
    }

    /** Looks for the round that a rule goes for ever. */
    private static final class Circle {
        private static final int WIDTH = MOST_PLOTS + 1;

        private final Trial trial;
        /** The state ahead of each year: the plots, then the village with the turn of a round. */
        private final int[] states = new int[(MOST_EVER + 1) * WIDTH];
        private final int[] harvests = new int[MOST_EVER];
        /** The years ahead of which the state is the same. */
        int start;
        int end;

        Circle(Trial trial) {
            this.trial = trial;
        }

        /** The trial stands at the first year. */
        boolean closes() {
            for (int year = 0; year <= MOST_EVER; year++) {
                note(year);
                int like = firstLike(year);
                if (like < year) {
                    start = like;
                    end = year;
                    return true;
                }
                if (year < MOST_EVER) {
                    trial.spendYears(1, false);
                    harvests[year] = trial.harvest;
                }
            }
            return false;
        }

        private int firstLike(int year) {
            for (int i = 0; i < year; i++) {
                if (isSame(i, year)) {
                    return i;
                }
            }
            return year;
        }

        int leastHarvest() {
            int from = Math.max(start, 0);
            int least = from < MOST_EVER ? harvests[from] : 0;
            for (int i = from; i < end && i < MOST_EVER; i++) {
                least = Math.min(least, harvests[i]);
            }
            return least;
        }

        private void note(int year) {
            int from = year * WIDTH;
            if (from < 0 || from + MOST_PLOTS >= states.length) {
                return;
            }
            for (int i = 0; i < MOST_PLOTS; i++) {
                states[from + i] = trial.hill.mark(i);
            }
            states[from + MOST_PLOTS] = trial.hill.village * (MOST_V + 1) + trial.chief.turn();
        }

        private boolean isSame(int one, int other) {
            int a = one * WIDTH;
            int b = other * WIDTH;
            for (int i = 0; i < WIDTH; i++) {
                if (a + i >= states.length || b + i >= states.length || states[a + i] != states[b + i]) {
                    return false;
                }
            }
            return true;
        }
    }

    /** Plays an act of a rule, body by body. */
    private static final class Play {
        final int[] trace = new int[MOST_TRACE];
        int ran;
        private int kind;
        private int v;
        private int number;

        int perform(int itsKind, int itsV, int itsNumber, int act, int x) {
            kind = itsKind;
            v = itsV;
            number = itsNumber;
            return call(kind, act, x, 0);
        }

        /** Runs the body of a kind for an act, or of the next kind above that has one. */
        private int call(int from, int act, int x, int depth) {
            int owner = from;
            for (int i = 0; i < KINDS && depth < MOST_DEPTH; i++) {
                int place = owner * ACTS + act;
                if (owner < 0 || owner >= KINDS || place < 0 || place >= BODIES.length) {
                    return 0;
                }
                if (BODIES[place] != 0) {
                    return run(BODIES[place], x, depth + 1);
                }
                owner = ABOVE[owner];
            }
            return 0;
        }

        private int callAbove(int owner, int act, int x, int depth) {
            return owner >= 0 && owner < KINDS ? call(ABOVE[owner], act, x, depth) : 0;
        }

        private int run(int body, int x, int depth) {
            if (ran >= 0 && ran < MOST_TRACE) {
                trace[ran] = body;
            }
            ran++;
            switch (body) {
                case 1: return x + number;
                case 2: return call(kind, BURNS, x, depth) - v;
                case 3: return call(kind, RESTS, x, depth) * 2;
                case 11: return callAbove(ROUND, BURNS, x * 3, depth);
                case 21: return -callAbove(REST, RESTS, x, depth);
                case 31: return callAbove(NEAR, TELLS, x, depth) ^ 7;
                case 41: return callAbove(BEST, TELLS, x - 1, depth) + call(kind, BURNS, 2, depth);
                case 51: return callAbove(STAY, BURNS, x, depth) ^ number;
                case 61: return callAbove(LONG, RESTS, x, depth) + v;
                default: return 0;
            }
        }
    }
}
