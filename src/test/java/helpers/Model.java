import java.util.ArrayList;
import java.util.HashMap;
import java.util.List;
import java.util.Map;
import java.util.TreeMap;

/**
 * The document told a second time, as plainly as the library allows and with no care for speed:
 * every question copies the whole state, conditions are read from their text each time, sets are
 * all gone through, and a tape is judged byte by byte with a stack instead of by a reader.
 */
final class Model {
    static final int NONE = -1, BAD = -2, STATE = -3, FULL = -4;
    static final int[] PARENT = {-1, 0, 0, 0, 3, 2, 2};

    static final class Plot {
        int soil, place, crop, lain = 30, worn;

        Plot copy() {
            Plot p = new Plot();
            p.soil = soil;
            p.place = place;
            p.crop = crop;
            p.lain = lain;
            p.worn = worn;
            return p;
        }

        public String toString() {
            return crop + "/" + lain + "/" + worn;
        }
    }

    static final class Told {
        List<Plot> plots = new ArrayList<>();
        int village = 0, mouths = 10, year = 0, lands = 0;
        String land = "", tape = "";
        List<int[]> rules = new ArrayList<>();
        List<Integer> row = new ArrayList<>(), ages = new ArrayList<>();

        Told copy() {
            Told t = new Told();
            for (Plot p : plots) {
                t.plots.add(p.copy());
            }
            t.village = village;
            t.mouths = mouths;
            t.year = year;
            t.lands = lands;
            t.land = land;
            t.tape = tape;
            t.rules.addAll(rules);
            t.row.addAll(row);
            t.ages.addAll(ages);
            return t;
        }

        int last(String word, int without) {
            int n = without;
            for (String clause : land.split(";")) {
                if (clause.startsWith(word + " ")) {
                    n = Integer.parseInt(clause.substring(word.length() + 1));
                }
            }
            return n;
        }

        int walk() {
            return last("walk", 99);
        }

        int move() {
            return last("move", 0);
        }

        int dry() {
            return Math.min(10, last("dry", 0));
        }

        int burntWorn(Plot p) {
            if (p.crop == 0) {
                for (String clause : land.split(";")) {
                    if (clause.startsWith("wear ") && holds(clause.substring(5), 1, p, p.worn)) {
                        return Math.min(9, p.worn + 1);
                    }
                }
            }
            return p.worn;
        }

        int gives(Plot p, int from, int walk) {
            if (Math.abs(p.place - from) > walk) {
                return 0;
            }
            int worn = burntWorn(p);
            int sum = 0;
            for (String clause : land.split(";")) {
                if (clause.startsWith("give ")) {
                    String[] parts = clause.split(" ");
                    if (holds(parts[2], p.crop + 1, p, worn)) {
                        sum += Integer.parseInt(parts[1]);
                    }
                }
            }
            return Math.max(0, sum - worn);
        }

        int together(int set, int from) {
            int sum = 0;
            for (int i = 0; i < plots.size(); i++) {
                if ((set & 1 << i) != 0) {
                    sum += gives(plots.get(i), from, walk());
                }
            }
            return sum;
        }

        /** A year; answers what all give together, and what moving cost. */
        int[] pass(int set, int to, boolean grows) {
            int gave = together(set, to);
            int cost = to != village ? move() : 0;
            village = to;
            for (int i = 0; i < plots.size(); i++) {
                Plot p = plots.get(i);
                if ((set & 1 << i) != 0) {
                    p.worn = burntWorn(p);
                    p.crop++;
                } else if (p.crop > 0) {
                    p.crop = 0;
                    p.lain = 0;
                } else if (p.lain < 30) {
                    p.lain++;
                }
            }
            if (grows) {
                mouths = Math.min(99, mouths + (mouths * last("grow", 0) + 99) / 100);
            }
            year++;
            return new int[] {gave, cost};
        }
    }

    Told t = new Told();
    Told image = null;
    List<Integer> trace = new ArrayList<>();

    /** Splits at the outermost signs; conditions here have been judged a land before. */
    static boolean holds(String e, int c, Plot p, int worn) {
        int depth = 0;
        for (char sign : new char[] {'|', '&'}) {
            for (int i = e.length() - 1; i >= 0; i--) {
                char b = e.charAt(i);
                depth += b == ')' ? 1 : b == '(' ? -1 : 0;
                if (b == sign && depth == 0) {
                    boolean left = holds(e.substring(0, i), c, p, worn);
                    boolean right = holds(e.substring(i + 1), c, p, worn);
                    return sign == '|' ? left || right : left && right;
                }
            }
        }
        if (e.charAt(0) == '!') {
            return !holds(e.substring(1), c, p, worn);
        }
        if (e.charAt(0) == '(') {
            return holds(e.substring(1, e.length() - 1), c, p, worn);
        }
        Map<Character, Integer> value = new HashMap<>();
        value.put('c', c);
        value.put('y', p.lain);
        value.put('s', p.soil);
        value.put('w', worn);
        value.put('p', p.place);
        int is = value.get(e.charAt(0));
        int told = Integer.parseInt(e.substring(2));
        return e.charAt(1) == '<' ? is < told : e.charAt(1) == '=' ? is == told : is > told;
    }

    /**
     * The place of the fault, or -1. What may come next is told by a text of what is open and a mode:
     * letters of a word, a number, a factor, behind a factor.
     */
    static int fault(String tape) {
        String[] words = {"give ", "wear ", "walk ", "move ", "grow ", "dry "};
        String mode = "word";
        String word = "";
        String number = "";
        StringBuilder open = new StringBuilder();
        int clauses = 1;
        for (int i = 0; i < tape.length(); i++) {
            char b = tape.charAt(i);
            boolean digit = b >= '0' && b <= '9';
            if (mode.equals("word")) {
                word += b;
                boolean some = false;
                for (String w : words) {
                    some |= w.startsWith(word);
                    if (w.equals(word)) {
                        mode = w.equals("wear ") ? "factor" : "n";
                        number = "";
                    }
                }
                if (!some) {
                    return i;
                }
                continue;
            }
            if (mode.equals("n") || mode.equals("told")) {
                if (digit && number.length() < 2 && !number.equals("0")) {
                    number += b;
                    continue;
                }
                if (number.isEmpty()) {
                    return i;
                }
                if (mode.equals("n") && word.equals("give ")) {
                    if (b != ' ') {
                        return i;
                    }
                    mode = "factor";
                    continue;
                }
                if (mode.equals("told")) {
                    mode = "behind";
                    unfold(open);
                }
            }
            if (mode.equals("factor")) {
                if (b == '!' || b == '(') {
                    if (open.length() == 5) {
                        return i;
                    }
                    open.append(b);
                } else if ("cyswp".indexOf(b) >= 0) {
                    mode = "sign";
                } else {
                    return i;
                }
                continue;
            }
            if (mode.equals("sign")) {
                if ("<=>".indexOf(b) < 0) {
                    return i;
                }
                mode = "told";
                number = "";
                continue;
            }
            if (mode.equals("behind") && (b == '|' || b == '&')) {
                mode = "factor";
                continue;
            }
            if (mode.equals("behind") && b == ')' && open.length() > 0) {
                open.setLength(open.length() - 1);
                unfold(open);
                continue;
            }
            if (b == ';' && open.length() == 0 && clauses < 10) {
                clauses++;
                mode = "word";
                word = "";
                continue;
            }
            return i;
        }
        if (mode.equals("told") && !number.isEmpty()) {
            mode = "behind";
            unfold(open);
        }
        boolean full = mode.equals("behind") && open.length() == 0
            || mode.equals("n") && !number.isEmpty() && !word.equals("give ");
        return full ? -1 : tape.length();
    }

    /** A factor has ended, and with it every ! right ahead of it. */
    private static void unfold(StringBuilder open) {
        while (open.length() > 0 && open.charAt(open.length() - 1) == '!') {
            open.setLength(open.length() - 1);
        }
    }

    int plot(int soil, int place) {
        if (soil < 0 || soil > 3 || place < 0 || place > 40) {
            return BAD;
        }
        if (t.plots.size() == 8) {
            return FULL;
        }
        Plot p = new Plot();
        p.soil = soil;
        p.place = place;
        t.plots.add(p);
        return t.plots.size() - 1;
    }

    private boolean noPlot(int plot) {
        return plot < 0 || plot >= t.plots.size();
    }

    private boolean noRule(int rule) {
        return rule < 0 || rule >= t.rules.size();
    }

    int of(int plot, int what) {
        if (noPlot(plot) || what < 0 || what > 4) {
            return NONE;
        }
        Plot p = t.plots.get(plot);
        return new int[] {p.soil, p.place, p.crop, p.lain, p.worn}[what];
    }

    int lies(int plot, int y) {
        if (noPlot(plot)) {
            return NONE;
        }
        if (y < 0 || y > 30) {
            return BAD;
        }
        int before = of(plot, 3);
        t.plots.get(plot).crop = 0;
        t.plots.get(plot).lain = y;
        return before;
    }

    int feed(long w, int n) {
        if (n < 1 || n > 8) {
            return BAD;
        }
        if (t.tape.length() + n > 120) {
            return FULL;
        }
        String more = "";
        for (int i = 0; i < n; i++) {
            more = (char) (w & 255) + more;
            w >>= 8;
        }
        t.tape += more;
        return t.tape.length();
    }

    int land() {
        if (t.lands == 5) {
            return FULL;
        }
        String tape = t.tape;
        t.tape = "";
        int fault = fault(tape);
        if (fault >= 0) {
            return -10 - fault;
        }
        t.land = tape;
        return t.lands++;
    }

    int set(int what, int n) {
        if (what == 0) {
            if (n < 0 || n > 40) {
                return BAD;
            }
            int before = t.village;
            t.village = n;
            return before;
        }
        if (what == 1) {
            if (n < 1 || n > 99) {
                return BAD;
            }
            int before = t.mouths;
            t.mouths = n;
            return before;
        }
        return NONE;
    }

    int gives(int plot) {
        return noPlot(plot) ? NONE : t.gives(t.plots.get(plot), t.village, t.walk());
    }

    int year(int plots, int place) {
        if (plots < 0 || plots >= 1 << t.plots.size() || place < 0 || place > 40) {
            return -1002;
        }
        int[] got = t.pass(plots, place, true);
        return got[0] - got[1];
    }

    int rule(int kind, int v) {
        if (kind < 0 || kind > 6) {
            return NONE;
        }
        if (v < 1 || v > 30) {
            return BAD;
        }
        if (t.rules.size() == 8) {
            return FULL;
        }
        t.rules.add(new int[] {kind, v});
        return t.rules.size() - 1;
    }

    /** What a rule has burnt, a village standing at a place. */
    static int burnt(Told t, int kind, int v, int from) {
        int size = t.plots.size();
        int set = 0;
        if (kind == 1) {
            for (int i = 0; i < size; i++) {
                set |= i % v == t.year % v ? 1 << i : 0;
            }
            return set;
        }
        if (kind == 4) {
            return burntBest(t, from);
        }
        List<Integer> left = new ArrayList<>();
        for (int i = 0; i < size; i++) {
            Plot p = t.plots.get(i);
            boolean may = t.gives(p, from, t.walk()) > 0;
            if (kind == 2 || kind == 5 || kind == 6) {
                may &= p.crop > 0 || p.lain >= v;
            }
            if (kind == 6) {
                may &= p.crop < v;
            }
            if (kind == 3) {
                may &= Math.abs(p.place - from) <= v;
            }
            if (may) {
                left.add(i);
            }
        }
        left.sort((a, b) -> {
            Plot p = t.plots.get(a);
            Plot q = t.plots.get(b);
            if (kind == 3 && Math.abs(p.place - from) != Math.abs(q.place - from)) {
                return Math.abs(p.place - from) - Math.abs(q.place - from);
            }
            if (kind == 5 && p.crop > 0 != q.crop > 0) {
                return p.crop > 0 ? -1 : 1;
            }
            int more = t.gives(q, from, t.walk()) - t.gives(p, from, t.walk());
            return more != 0 ? more : a - b;
        });
        for (int i : left) {
            if (t.together(set, from) >= t.mouths) {
                break;
            }
            set |= 1 << i;
        }
        return set;
    }

    private static int burntBest(Told t, int from) {
        TreeMap<Integer, Integer> found = new TreeMap<>();
        int giving = 0;
        for (int set = 0; set < 1 << t.plots.size(); set++) {
            int sum = t.together(set, from);
            if (sum >= t.mouths) {
                found.putIfAbsent(Integer.bitCount(set) * 100000 + sum, set);
            }
            giving |= Integer.bitCount(set) == 1 && sum > 0 ? set : 0;
        }
        return found.isEmpty() ? giving : found.firstEntry().getValue();
    }

    static int goal(Told t, int kind, int v) {
        int here = t.together(burnt(t, kind, v, t.village), t.village);
        if (here >= t.mouths) {
            return t.village;
        }
        int most = here;
        int to = t.village;
        for (Plot p : t.plots) {
            int harvest = t.together(burnt(t, kind, v, p.place), p.place);
            harvest -= p.place != t.village ? t.move() : 0;
            if (harvest > most) {
                most = harvest;
                to = p.place;
            }
        }
        return to;
    }

    /** A year by a rule: harvest, 1 if it moved, 1 if it was hungry, 1 if it would be when dry. */
    static int[] passByRule(Told t, int kind, int v, boolean grows) {
        int mouths = t.mouths;
        int before = t.village;
        int to = goal(t, kind, v);
        int[] got = t.pass(burnt(t, kind, v, to), to, grows);
        int harvest = got[0] - got[1];
        return new int[] {
            harvest, to != before ? 1 : 0, harvest < mouths ? 1 : 0, got[0] / 2 - got[1] < mouths ? 1 : 0
        };
    }

    int burns(int rule) {
        return noRule(rule) ? NONE : burnt(t, t.rules.get(rule)[0], t.rules.get(rule)[1], t.village);
    }

    int moves(int rule) {
        return noRule(rule) ? NONE : goal(t, t.rules.get(rule)[0], t.rules.get(rule)[1]);
    }

    int go(int rule, int n) {
        if (noRule(rule)) {
            return NONE;
        }
        if (n < 1 || n > 30) {
            return BAD;
        }
        int hungry = 0;
        for (int i = 0; i < n; i++) {
            hungry += passByRule(t, t.rules.get(rule)[0], t.rules.get(rule)[1], true)[2];
        }
        return hungry;
    }

    private static int tell(List<Integer> list, int n, int most, int size) {
        if (n == -1) {
            list.clear();
            return 0;
        }
        if (n < 0 || n > most) {
            return BAD;
        }
        if (list.size() == size) {
            return FULL;
        }
        list.add(n);
        return list.size();
    }

    int row(int plots) {
        return tell(t.row, plots, 255, 12);
    }

    int judged() {
        Told own = t.copy();
        for (int i = 0; i < own.row.size(); i++) {
            int mouths = own.mouths;
            if (own.pass(own.row.get(i), own.village, true)[0] < mouths) {
                return i;
            }
        }
        return -5;
    }

    private static int firstHungry(Told t, int kind, int v, int n, boolean grows) {
        for (int i = 0; i < n; i++) {
            if (passByRule(t, kind, v, grows)[2] == 1) {
                return i;
            }
        }
        return -5;
    }

    int proof(int rule, int n, int what) {
        if (noRule(rule) || what < 0 || what > 2) {
            return NONE;
        }
        if (n < 1 || n > 30) {
            return BAD;
        }
        int kind = t.rules.get(rule)[0];
        int v = t.rules.get(rule)[1];
        if (what == 0) {
            return firstHungry(t.copy(), kind, v, n, true);
        }
        int answer = 0;
        Told own = t.copy();
        for (int i = 0; what == 1 && i < n; i++) {
            answer += passByRule(own, kind, v, true)[1];
        }
        for (int m = 1; what == 2 && m <= 99; m++) {
            own = t.copy();
            own.mouths = m;
            answer = firstHungry(own, kind, v, n, false) == -5 ? m : answer;
        }
        return answer;
    }

    int ever(int rule, int what) {
        if (noRule(rule) || what < 0 || what > 2) {
            return NONE;
        }
        int kind = t.rules.get(rule)[0];
        int v = t.rules.get(rule)[1];
        Told own = t.copy();
        Map<String, Integer> seen = new HashMap<>();
        List<Integer> harvests = new ArrayList<>();
        for (int year = 0; year <= 200; year++) {
            String state = own.plots + "@" + own.village + (kind == 1 ? "#" + own.year % v : "");
            if (seen.containsKey(state)) {
                int from = seen.get(state);
                int least = harvests.get(from);
                for (int h : harvests.subList(from, year)) {
                    least = Math.min(least, h);
                }
                return new int[] {year, year - from, least}[what];
            }
            seen.put(state, year);
            harvests.add(passByRule(own, kind, v, false)[0]);
        }
        return -9;
    }

    int less(int n) {
        if (n < 1 || n > 30) {
            return BAD;
        }
        for (int v = 1; v <= 30; v++) {
            Told own = t.copy();
            boolean good = firstHungry(own, 2, v, n, true) == -5;
            for (int i = 0; i < t.plots.size(); i++) {
                good &= own.plots.get(i).worn <= t.plots.get(i).worn;
            }
            if (good) {
                return v;
            }
        }
        return -5;
    }

    /** Every sky of n years, each with its weight. */
    long safe(int rule, int n, int part) {
        if (noRule(rule) || n < 1 || n > 6 || part < 0 || part > 1) {
            return Long.MIN_VALUE;
        }
        Told own = t.copy();
        List<int[]> years = new ArrayList<>();
        for (int i = 0; i < n; i++) {
            years.add(passByRule(own, t.rules.get(rule)[0], t.rules.get(rule)[1], true));
        }
        long above = 0;
        long below = 1;
        for (int sky = 0; sky < 1 << n; sky++) {
            long weight = 1;
            for (int i = 0; i < n; i++) {
                boolean dry = (sky & 1 << i) != 0;
                weight *= years.get(i)[dry ? 3 : 2] == 1 ? 0 : dry ? t.dry() : 10 - t.dry();
            }
            above += weight;
        }
        for (int i = 0; i < n; i++) {
            below *= 10;
        }
        for (int prime : new int[] {2, 5}) {
            while (below % prime == 0 && above % prime == 0) {
                above /= prime;
                below /= prime;
            }
        }
        return part == 0 ? above : below;
    }

    int two(int place) {
        if (place < 0 || place > 40) {
            return BAD;
        }
        int sets = 1 << t.plots.size();
        int found = 0;
        for (int set = 0; set < sets; set++) {
            boolean here = 2 * t.together(set, t.village) >= t.mouths;
            boolean there = 2 * t.together(sets - 1 - set, place) >= t.mouths;
            found += here && there ? 1 : 0;
        }
        return found;
    }

    int way(int n) {
        if (n < 0 || n > 40) {
            return BAD;
        }
        int more = 0;
        for (Plot p : t.plots) {
            more += t.gives(p, t.village, t.walk() + n) - t.gives(p, t.village, t.walk());
        }
        return more;
    }

    int age(int n) {
        return tell(t.ages, n, 99, 10);
    }

    int round(int n) {
        if (n < 0 || n > 9) {
            return BAD;
        }
        for (int length = 1; length <= 30; length++) {
            boolean all = true;
            for (int age : t.ages) {
                boolean some = false;
                for (int multiple = 0; multiple <= 200; multiple += length) {
                    some |= Math.abs(multiple - age) <= n;
                }
                all &= some;
            }
            if (all) {
                return length;
            }
        }
        return -5;
    }

    /** The kinds as the document writes them: classes of this language. */
    private abstract static class Acting {
        int i;
        int v;
        List<Integer> ran;
    }

    private static class ActRule extends Acting {
        int burns(int x) {
            ran.add(1);
            return x + i;
        }

        int rests(int x) {
            ran.add(2);
            return burns(x) - v;
        }

        int tells(int x) {
            ran.add(3);
            return rests(x) * 2;
        }
    }

    private static final class ActRound extends ActRule {
        int burns(int x) {
            ran.add(11);
            return super.burns(x * 3);
        }
    }

    private static class ActRest extends ActRule {
        int rests(int x) {
            ran.add(21);
            return -super.rests(x);
        }
    }

    private static class ActNear extends ActRule {
        int tells(int x) {
            ran.add(31);
            return super.tells(x) ^ 7;
        }
    }

    private static final class ActBest extends ActNear {
        int tells(int x) {
            ran.add(41);
            return super.tells(x - 1) + burns(2);
        }
    }

    private static final class ActStay extends ActRest {
        int burns(int x) {
            ran.add(51);
            return super.burns(x) ^ i;
        }
    }

    private static final class ActLong extends ActRest {
        int rests(int x) {
            ran.add(61);
            return super.rests(x) + v;
        }
    }

    int act(int rule, int act, int x) {
        trace.clear();
        if (noRule(rule) || act < 0 || act > 2) {
            return 0;
        }
        ActRule[] kinds = {
            new ActRule(), new ActRound(), new ActRest(), new ActNear(), new ActBest(), new ActStay(), new ActLong()
        };
        ActRule acting = kinds[t.rules.get(rule)[0]];
        acting.i = rule;
        acting.v = t.rules.get(rule)[1];
        acting.ran = trace;
        return act == 0 ? acting.burns(x) : act == 1 ? acting.rests(x) : acting.tells(x);
    }

    int trace(int i) {
        return i < 0 || i >= Math.min(20, trace.size()) ? NONE : trace.get(i);
    }

    int as(int rule, int k) {
        if (noRule(rule) || k < 0 || k > 6) {
            return NONE;
        }
        for (int kind = t.rules.get(rule)[0]; kind >= 0; kind = PARENT[kind]) {
            if (kind == k) {
                return t.rules.get(rule)[1];
            }
        }
        return -6;
    }

    int image() {
        image = t.copy();
        return t.plots.size();
    }

    int undo() {
        if (image == null) {
            return STATE;
        }
        t = image.copy();
        return t.plots.size();
    }

    int count(int what) {
        int[] counts = {
            t.plots.size(), t.rules.size(), t.lands, t.year, t.tape.length(), t.row.size(), t.ages.size(), trace.size()
        };
        return what < 0 || what > 7 ? NONE : counts[what];
    }
}
