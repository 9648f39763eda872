import java.util.ArrayList;
import java.util.Arrays;
import java.util.HashSet;
import java.util.List;
import java.util.Set;
import java.util.TreeMap;
import java.util.regex.Matcher;
import java.util.regex.Pattern;

/**
 * The document once more, as slow and plain as can be, with the Java library and by other ways than the class goes:
 * every filling and every tree tried, paths as real Java classes, numbers as texts.
 */
final class Model {
    static final int BAD = -1, NOT = -2, FULL = -3, STATE = -5, VOID = -2000000000, TORN = 9;

    static final class Town {
        int first, last, says = -1, mother = -1;
        boolean lost;
        int[] form = new int[16];
    }

    final List<Town> towns = new ArrayList<>();
    final StringBuilder tape = new StringBuilder();
    int[] costs = {10, 4, 6, 5, 8};
    final List<Integer> list = new ArrayList<>();
    final List<int[]> done = new ArrayList<>();
    final List<int[]> undone = new ArrayList<>();
    final List<Path> paths = new ArrayList<>();
    final List<Integer> trace = new ArrayList<>();
    final Object[] shelves = new Object[6];

    // ---- charters

    int feed(int n, int v) {
        if (n < 1 || n > 4) return BAD;
        if (tape.length() + n > 120) return FULL;
        for (int i = 0; i < n; i++) tape.append((char) ((v >>> (8 * i)) & 0xff));
        return tape.length();
    }

    private static final Pattern TEXT =
        Pattern.compile("([0-9]{1,3})(?:-([0-9]{1,3}))?((?:,[a-p][0123?])*)(?:<([0-9]{1,2}))?");

    /** Only whether a text stands whole, by a pattern; -1 else. */
    int charter() {
        if (towns.size() >= 12) return FULL;
        String text = tape.toString();
        tape.setLength(0);
        Town t = read(text);
        if (t == null) return -100 - fault(text);
        towns.add(t);
        return towns.size() - 1;
    }

    private Town read(String text) {
        Matcher m = TEXT.matcher(text);
        if (!m.matches()) return null;
        Town t = new Town();
        t.first = Integer.parseInt(m.group(1));
        t.last = m.group(2) == null ? t.first : Integer.parseInt(m.group(2));
        if (t.last < t.first) return null;
        Arrays.fill(t.form, TORN);
        Set<Character> told = new HashSet<>();
        String clauses = m.group(3);
        for (int i = 0; i < clauses.length(); i += 3) {
            if (!told.add(clauses.charAt(i + 1))) return null;
            char f = clauses.charAt(i + 2);
            t.form[clauses.charAt(i + 1) - 'a'] = f == '?' ? TORN : f - '0';
        }
        if (m.group(4) != null) {
            t.says = Integer.parseInt(m.group(4));
            if (t.says >= towns.size()) return null;
        }
        return t;
    }

    /** The longest beginning that can go on to a text; days and mothers judged by their digits whole. */
    private int fault(String text) {
        Matcher days = Pattern.compile("^([0-9]{1,3})-([0-9]{1,3})").matcher(text);
        if (days.find() && Integer.parseInt(days.group(2)) < Integer.parseInt(days.group(1))) return days.start(2);
        String head = "[0-9]{1,3}(-[0-9]{1,3})?(,[a-p][0123?])*";
        Matcher mother = Pattern.compile("^" + head + "<([0-9]{1,2})").matcher(text);
        int motherAt = -1;
        if (mother.find() && Integer.parseInt(mother.group(3)) >= towns.size()) motherAt = mother.start(3);
        int twice = firstTwice(text, head);
        for (int i = 0; i <= text.length(); i++) {
            if (i == twice || i == motherAt) return i;
            if (i == text.length()) return i;
            if (!goesOn(text.substring(0, i + 1))) return i;
        }
        return text.length();
    }

    private int firstTwice(String text, String head) {
        Matcher m = Pattern.compile("^[0-9]{1,3}(-[0-9]{1,3})?((,[a-p][0123?])*)(,[a-p])?").matcher(text);
        if (!m.find()) return -1;
        Set<Character> told = new HashSet<>();
        for (int i = m.start(2); i + 1 < m.end(); i += 3) {
            if (!told.add(text.charAt(i + 1))) return i + 1;
        }
        return -1;
    }

    private static boolean goesOn(String start) {
        String[] ways = {"", "0", "a0", "-0", "00"};
        for (String way : ways) if (TEXT.matcher(start + way).matches()) return true;
        return false;
    }

    int lost() {
        if (towns.size() >= 12) return FULL;
        Town t = new Town();
        t.last = 999;
        t.lost = true;
        Arrays.fill(t.form, TORN);
        towns.add(t);
        return towns.size() - 1;
    }

    private boolean no(int charter) {
        return charter < 0 || charter >= towns.size();
    }

    int ofCharter(int charter, int what) {
        if (no(charter)) return BAD;
        Town t = towns.get(charter);
        if (what == 0) return t.first;
        if (what == 1) return t.last;
        if (what == 2) return t.says;
        if (what == 3) return t.lost ? 1 : 0;
        if (what < 10 || what > 25) return BAD;
        return t.form[what - 10];
    }

    /** A change: what (0 form, 1 cost, 2 mother), where, which, before, after. */
    private void change(int what, int where, int which, int v) {
        int was = get(what, where, which);
        if (was == v) return;
        done.add(new int[] {what, where, which, was, v});
        if (done.size() > 40) done.remove(0);
        undone.clear();
        set(what, where, which, v);
    }

    private int get(int what, int where, int which) {
        if (what == 0) return towns.get(where).form[which];
        return what == 1 ? costs[which] : towns.get(where).mother;
    }

    private void set(int what, int where, int which, int v) {
        if (what == 0) towns.get(where).form[which] = v;
        else if (what == 1) costs[which] = v;
        else towns.get(where).mother = v;
    }

    int form(int charter, int clause, int v) {
        if (no(charter) || clause < 0 || clause > 15 || v < 0 || v > 3 && v != 9) return BAD;
        int was = towns.get(charter).form[clause];
        change(0, charter, clause, v);
        return was;
    }

    int forms(int charter, int shelf, int i, int n) {
        if (no(charter) || shelf < 0 || shelf > 5 || n < 1 || n > 16) return BAD;
        Object o = shelves[shelf];
        if (o == null) return 0;
        if (!(o instanceof byte[])) return -12;
        byte[] row = (byte[]) o;
        for (int k = 0; k < n; k++) {
            long at = (long) i + k;
            if (at < 0 || at >= row.length) return k;
            int v = row[(int) at];
            if (v < 0 || v > 3 && v != 9) return k;
            change(0, charter, k, v);
        }
        return n;
    }

    int price(int which, int v) {
        if (which < 0 || which > 4 || v < 0 || v > 99) return BAD;
        int was = costs[which];
        change(1, 0, which, v);
        return was;
    }

    int same(int charter, int other, int what) {
        if (no(charter) || no(other) || what < 0 || what > 2) return BAD;
        int[] bits = new int[3];
        for (int k = 0; k < 16; k++) {
            int a = towns.get(charter).form[k], b = towns.get(other).form[k];
            if (a == 9 || b == 9) bits[2] += 1 << k;
            else if (a == b) bits[0] += 1 << k;
            else bits[1] += 1 << k;
        }
        return bits[what];
    }

    // ---- the tree

    int mother(int charter, int mother) {
        if (no(charter) || mother < -1 || mother >= towns.size() || mother == charter) return VOID;
        if (mother >= 0 && under(mother).contains(charter)) return NOT;
        int was = towns.get(charter).mother;
        change(2, charter, 0, mother);
        return was;
    }

    /** A charter and all above it. */
    private List<Integer> under(int charter) {
        List<Integer> all = new ArrayList<>();
        for (int x = charter; x >= 0; x = towns.get(x).mother) all.add(x);
        return all;
    }

    private int[] handMothers() {
        int[] m = new int[towns.size()];
        for (int i = 0; i < m.length; i++) m[i] = towns.get(i).mother;
        return m;
    }

    int step(int f, int g) {
        if (f == g) return 0;
        if (f == 0) return costs[0];
        return g == 0 ? costs[1] : costs[2];
    }

    /** The least sum of one clause: by its plain recursion from the roots down. */
    int least(int[] mothers, int[] form) {
        int sum = 0;
        for (int i = 0; i < mothers.length; i++) {
            if (mothers[i] >= 0) continue;
            int least = Integer.MAX_VALUE;
            for (int f = 0; f < 4; f++) {
                if (form[i] == 9 || form[i] == f) least = Math.min(least, branch(mothers, form, i, f));
            }
            sum += least;
        }
        return sum;
    }

    private int branch(int[] mothers, int[] form, int v, int f) {
        int sum = 0;
        for (int c = 0; c < mothers.length; c++) {
            if (mothers[c] != v) continue;
            int least = Integer.MAX_VALUE;
            for (int g = 0; g < 4; g++) {
                if (form[c] == 9 || form[c] == g) least = Math.min(least, step(f, g) + branch(mothers, form, c, g));
            }
            sum += least;
        }
        return sum;
    }

    private int[] column(int clause) {
        int[] form = new int[towns.size()];
        for (int i = 0; i < form.length; i++) form[i] = towns.get(i).form[clause];
        return form;
    }

    int cost(int clause) {
        if (clause < -1 || clause > 15) return BAD;
        int sum = 0;
        for (int k = 0; k < 16; k++) if (clause == -1 || clause == k) sum += least(handMothers(), column(k));
        return sum;
    }

    int filled(int charter, int clause) {
        if (no(charter) || clause < 0 || clause > 15) return BAD;
        int told = towns.get(charter).form[clause];
        return told != 9 ? 1 << told : law(charter, clause);
    }

    int law(int charter, int clause) {
        if (no(charter) || clause < 0 || clause > 15) return BAD;
        int[] form = column(clause);
        int[] all = new int[4];
        int least = Integer.MAX_VALUE;
        for (int f = 0; f < 4; f++) {
            form[charter] = f;
            all[f] = least(handMothers(), form);
            least = Math.min(least, all[f]);
        }
        int bits = 0;
        for (int f = 0; f < 4; f++) if (all[f] == least) bits |= 1 << f;
        return bits;
    }

    private int earliest(int[] mothers, int[] first, int v) {
        return mothers[v] < 0 ? first[v] : Math.max(first[v], 1 + earliest(mothers, first, mothers[v]));
    }

    private int latest(int[] mothers, int[] last, int v) {
        int day = last[v];
        for (int c = 0; c < mothers.length; c++) if (mothers[c] == v) day = Math.min(day, latest(mothers, last, c) - 1);
        return day;
    }

    private int firstLate(int[] mothers, int[] first, int[] last) {
        for (int v = 0; v < mothers.length; v++) {
            if (mothers[v] >= 0 && earliest(mothers, first, v) > last[v]) return v;
        }
        return -1;
    }

    private int[] days(List<Integer> of, boolean lastDay) {
        int[] day = new int[of.size()];
        for (int i = 0; i < day.length; i++) day[i] = lastDay ? towns.get(of.get(i)).last : towns.get(of.get(i)).first;
        return day;
    }

    private List<Integer> everyone() {
        List<Integer> all = new ArrayList<>();
        for (int i = 0; i < towns.size(); i++) all.add(i);
        return all;
    }

    int days(int charter, int what) {
        if (no(charter) || what < 0 || what > 2) return BAD;
        int[] m = handMothers(), first = days(everyone(), false), last = days(everyone(), true);
        int late = firstLate(m, first, last);
        if (what == 2) return late < 0 ? NOT : late;
        if (late >= 0) return NOT;
        return what == 0 ? earliest(m, first, charter) : latest(m, last, charter);
    }

    // ---- best trees

    int list(int charter) {
        if (no(charter) || list.contains(charter)) return BAD;
        if (list.size() == 6) return FULL;
        list.add(charter);
        return list.size();
    }

    int unlist() {
        int n = list.size();
        list.clear();
        return n;
    }

    /** By cost all trees, as digits; the first entry holds the best ones in order. */
    private TreeMap<Integer, List<String>> allTrees() {
        TreeMap<Integer, List<String>> all = new TreeMap<>();
        int n = list.size();
        collect(new int[n], 0, all);
        return all;
    }

    private void collect(int[] m, int at, TreeMap<Integer, List<String>> all) {
        int n = m.length;
        if (at == n) {
            int roots = 0;
            for (int i = 0; i < n; i++) {
                if (m[i] < 0) roots++;
                int x = i;
                for (int k = 0; k < n && x >= 0; k++) x = m[x];
                if (x >= 0) return;
            }
            if (roots != 1 || firstLate(m, days(list, false), days(list, true)) >= 0) return;
            int sum = 0;
            for (int k = 0; k < 16; k++) {
                int[] form = new int[n];
                for (int i = 0; i < n; i++) form[i] = towns.get(list.get(i)).form[k];
                sum += least(m, form);
            }
            StringBuilder digits = new StringBuilder();
            for (int i = 0; i < n; i++) digits.append(m[i] < 0 ? 9 : m[i]);
            all.computeIfAbsent(sum, s -> new ArrayList<>()).add(digits.toString());
            return;
        }
        for (int d = n - 1; d >= -1; d--) {
            if (d == at) continue;
            m[at] = d;
            collect(m, at + 1, all);
        }
    }

    private List<String> bestOnes() {
        TreeMap<Integer, List<String>> all = allTrees();
        if (all.isEmpty()) return new ArrayList<>();
        List<String> best = all.firstEntry().getValue();
        best.sort(null);
        return best;
    }

    private int bound() {
        int sum = 0;
        for (int k = 0; k < 16; k++) {
            Set<Integer> wordings = new HashSet<>();
            for (int c : list) {
                int f = towns.get(c).form[k];
                if (f >= 1 && f <= 3) wordings.add(f);
            }
            sum += Math.max(0, wordings.size() - 1) * Math.min(costs[0], costs[2]);
        }
        return sum;
    }

    int best(int what) {
        if (what < 0 || what > 4) return BAD;
        if (list.size() < 2) return STATE;
        if (what == 3) return bound();
        TreeMap<Integer, List<String>> all = allTrees();
        if (all.isEmpty()) return NOT;
        if (what == 0) return all.firstKey();
        if (what == 1) return all.firstEntry().getValue().size();
        if (what == 4) return all.firstKey() - bound();
        int bits = 0;
        for (int p = 0; p < list.size(); p++) {
            Set<Character> mothers = new HashSet<>();
            for (String t : all.firstEntry().getValue()) mothers.add(t.charAt(p));
            if (mothers.size() == 1) bits |= 1 << p;
        }
        return bits;
    }

    int tree(int i, int place) {
        if (i < 0 || place < 0 || place >= list.size()) return BAD;
        if (list.size() < 2) return STATE;
        List<String> best = bestOnes();
        if (best.isEmpty()) return NOT;
        if (i >= best.size()) return BAD;
        return best.get(i).charAt(place) - '0';
    }

    int never(int place) {
        if (place < 0 || place >= list.size()) return BAD;
        if (list.size() < 2) return STATE;
        List<String> best = bestOnes();
        if (best.isEmpty()) return NOT;
        int bits = 0;
        for (int p = 0; p < list.size(); p++) {
            boolean some = false;
            for (String t : best) some |= t.charAt(place) - '0' == p;
            if (!some) bits |= 1 << p;
        }
        return bits;
    }

    int claim(int charter) {
        if (no(charter) || towns.get(charter).says < 0) return BAD;
        int child = list.indexOf(charter), mother = list.indexOf(towns.get(charter).says);
        if (child < 0 || mother < 0) return BAD;
        List<String> best = bestOnes();
        if (best.isEmpty()) return NOT;
        int n = 0;
        for (String t : best) if (t.charAt(child) - '0' == mother) n++;
        return n == best.size() ? 2 : n > 0 ? 1 : 0;
    }

    // ---- borrowings, clashes

    private int[][] fillings() {
        int[][] fill = new int[towns.size()][16];
        for (int c = 0; c < fill.length; c++) {
            for (int k = 0; k < 16; k++) fill[c][k] = Integer.numberOfTrailingZeros(filled(c, k));
        }
        return fill;
    }

    private List<Integer> lenders(int child) {
        List<Integer> all = new ArrayList<>();
        for (int y = 0; y < towns.size(); y++) {
            if (y == child || y == towns.get(child).mother || under(y).contains(child)) continue;
            if (towns.get(y).first < towns.get(child).last) all.add(y);
        }
        return all;
    }

    /** Every choice for a chapter of a child and each of its clauses, one behind the other; by borrowings the least. */
    int few(int k) {
        if (k < 0 || k > 20) return BAD;
        int[][] fill = fillings();
        int[] least = new int[k + 1];
        for (int c = 0; c < fill.length; c++) {
            int m = towns.get(c).mother;
            if (m < 0) continue;
            for (int chapter = 0; chapter < 4; chapter++) {
                int[] here = new int[6];
                Arrays.fill(here, 1 << 20);
                List<Integer> whole = new ArrayList<>(lenders(c));
                whole.add(-1);
                for (int y : whole) choose(fill, c, m, chapter * 4, 0, y, y < 0 ? 0 : 1, y < 0 ? 0 : costs[4], here);
                int[] next = new int[k + 1];
                for (int all = 0; all <= k; all++) {
                    next[all] = 1 << 20;
                    for (int h = 0; h <= Math.min(5, all); h++) next[all] = Math.min(next[all], least[all - h] + here[h]);
                }
                least = next;
            }
        }
        int best = 1 << 20;
        for (int v : least) best = Math.min(best, v);
        return best;
    }

    private void choose(int[][] fill, int c, int m, int start, int i, int whole, int used, int sum, int[] here) {
        if (i == 4) {
            here[used] = Math.min(here[used], sum);
            return;
        }
        int k = start + i;
        if (whole >= 0 && fill[whole][k] == fill[c][k]) {
            choose(fill, c, m, start, i + 1, whole, used, sum, here);
            return;
        }
        choose(fill, c, m, start, i + 1, whole, used, sum + step(fill[m][k], fill[c][k]), here);
        for (int y : lenders(c)) {
            if (fill[y][k] == fill[c][k]) choose(fill, c, m, start, i + 1, whole, used + 1, sum + costs[3], here);
        }
    }

    int from(int charter, int clause) {
        if (no(charter) || clause < 0 || clause > 15) return BAD;
        int m = towns.get(charter).mother;
        if (m < 0) return NOT;
        int[][] fill = fillings();
        if (step(fill[m][clause], fill[charter][clause]) <= costs[3]) return NOT;
        for (int y : lenders(charter)) if (fill[y][clause] == fill[charter][clause]) return y;
        return NOT;
    }

    private List<Integer> clashes() {
        List<Integer> all = new ArrayList<>();
        for (int a = 0; a < 16; a++) {
            for (int b = a + 1; b < 16; b++) {
                Set<String> shown = new HashSet<>();
                for (Town t : towns) {
                    if (t.form[a] != 9 && t.form[b] != 9) shown.add((t.form[a] > 0) + " " + (t.form[b] > 0));
                }
                if (shown.size() == 4) all.add(16 * a + b);
            }
        }
        return all;
    }

    int pairs(int i) {
        List<Integer> all = clashes();
        if (i == -1) return all.size();
        return i < 0 || i >= all.size() ? BAD : all.get(i);
    }

    int freed() {
        List<Integer> all = clashes();
        int best = 65535;
        for (int bits = 65534; bits >= 0; bits--) {
            boolean free = true;
            for (int pair : all) free &= (bits & (1 << pair / 16 | 1 << pair % 16)) != 0;
            if (free && Integer.bitCount(bits) <= Integer.bitCount(best)) best = bits;
        }
        return best;
    }

    // ---- claims, burnt towns, slips

    int doubt(int what) {
        if (what != 0 && what != 1) return BAD;
        int best = 4095;
        int all = 0;
        for (int i = 0; i < towns.size(); i++) if (towns.get(i).says >= 0) all |= 1 << i;
        for (int bits = 4095; bits >= 0; bits--) {
            if ((bits & ~all) != 0) continue;
            int[] m = new int[towns.size()];
            for (int i = 0; i < m.length; i++) m[i] = (bits >> i & 1) != 0 ? -1 : towns.get(i).says;
            if (firstLate(m, days(everyone(), false), days(everyone(), true)) >= 0) continue;
            if (Integer.bitCount(bits) <= Integer.bitCount(best)) best = bits;
        }
        return what == 0 ? Integer.bitCount(best) : best;
    }

    int cameIn(int charter, int clause) {
        if (no(charter) || clause < 0 || clause > 15) return BAD;
        int[][] fill = fillings();
        if (fill[charter][clause] == 0) return NOT;
        int came = charter;
        for (int x : under(charter)) {
            if (fill[x][clause] != fill[charter][clause]) break;
            came = x;
        }
        return came;
    }

    private static final String ALIKE = "17 71 38 83 56 65 06 60";

    /** By slip (1 .. 4) all texts that a text can become. */
    private static Set<String> become(String text, int slip) {
        Set<String> all = new HashSet<>();
        for (int i = 0; i < text.length(); i++) {
            String head = text.substring(0, i), tail = text.substring(i + 1);
            char d = text.charAt(i);
            if (slip == 1) all.add(head + tail);
            if (slip == 2) all.add(head + d + d + tail);
            if (slip == 3 && !tail.isEmpty()) all.add(head + tail.charAt(0) + d + tail.substring(1));
            if (slip == 4) {
                for (String pair : ALIKE.split(" ")) if (pair.charAt(0) == d) all.add(head + pair.charAt(1) + tail);
            }
        }
        return all;
    }

    int slip(int from, int to) {
        if (from < 1 || to < 1 || from > 99999 || to > 99999) return BAD;
        if (from == to) return 0;
        for (int s = 1; s <= 4; s++) if (become("" + from, s).contains("" + to)) return s;
        return NOT;
    }

    int chain(int from, int to) {
        if (from < 1 || to < 1 || from > 99999 || to > 99999) return BAD;
        Set<String> now = new HashSet<>(Set.of("" + from));
        for (int n = 0; n <= 3; n++) {
            if (now.contains("" + to)) return n;
            Set<String> next = new HashSet<>();
            for (String t : now) {
                for (int s = 1; s <= 4; s++) {
                    for (String b : become(t, s)) if (b.matches("[1-9][0-9]{0,4}")) next.add(b);
                }
            }
            now = next;
        }
        return NOT;
    }

    int undo() {
        if (done.isEmpty()) return STATE;
        int[] c = done.remove(done.size() - 1);
        undone.add(c);
        set(c[0], c[1], c[2], c[3]);
        return done.size();
    }

    int redo() {
        if (undone.isEmpty()) return STATE;
        int[] c = undone.remove(undone.size() - 1);
        done.add(c);
        set(c[0], c[1], c[2], c[4]);
        return undone.size();
    }

    int digest() {
        int v = 7;
        for (Town t : towns) {
            v = v * 31 + t.mother + 1;
            for (int f : t.form) v = v * 31 + f;
        }
        for (int c : costs) v = v * 31 + c;
        return v;
    }

    // ---- paths: acts, shelves

    interface Costs {
        int number();

        Model model();

        default int costs(int x) {
            model().trace.add(1);
            return x + number();
        }
    }

    interface Tells {
        int lets(int x);

        int holds(int x);

        Model model();

        default int tells(int x) {
            model().trace.add(2);
            return lets(x) - holds(1);
        }
    }

    static class Path implements Costs, Tells {
        Model model;
        int n, c;

        public int number() { return n; }

        public Model model() { return model; }

        void ran(int body) { model.trace.add(body); }

        public int lets(int x) { ran(10); return costs(x) * 2; }

        public int holds(int x) { ran(11); return x ^ n; }
    }

    static class Child extends Path {
        public int lets(int x) { ran(20); return super.lets(x) + c; }
    }

    static class Borrow extends Path {
        public int holds(int x) { ran(30); return super.holds(x) * 3; }
    }

    static class Again extends Child {
        public int costs(int x) { ran(40); return super.costs(x) - 1; }

        public int tells(int x) { ran(41); return super.tells(x) ^ 5; }
    }

    static class Lost extends Path {
        public int holds(int x) { ran(50); return -super.holds(x); }
    }

    static class Root extends Lost {
        public int costs(int x) { ran(60); return super.costs(x + 1); }

        public int holds(int x) { ran(61); return super.holds(x) + costs(2); }
    }

    static class Told extends Child {
        public int lets(int x) { ran(70); return super.lets(x) - holds(2); }
    }

    private static final List<Class<?>> KINDS =
        List.of(Path.class, Child.class, Borrow.class, Again.class, Lost.class, Root.class, Told.class);

    int path(int kind, int charter) {
        if (kind < 0 || kind > 6 || no(charter)) return BAD;
        if (paths.size() == 100) return FULL;
        Path p;
        switch (kind) {
            case 0: p = new Path(); break;
            case 1: p = new Child(); break;
            case 2: p = new Borrow(); break;
            case 3: p = new Again(); break;
            case 4: p = new Lost(); break;
            case 5: p = new Root(); break;
            default: p = new Told();
        }
        p.model = this;
        p.n = paths.size();
        p.c = charter;
        paths.add(p);
        return p.n;
    }

    int act(int path, int act, int x) {
        trace.clear();
        if (path < 0 || path >= paths.size()) return 0;
        Path p = paths.get(path);
        switch (act) {
            case 0: return p.costs(x);
            case 1: return p.lets(x);
            case 2: return p.holds(x);
            case 3: return p.tells(x);
            default: return 0;
        }
    }

    int trace(int i) {
        return i < 0 || i >= trace.size() || i >= 24 ? BAD : trace.get(i);
    }

    int keep(int shelf, int path) {
        if (shelf < 0 || shelf > 5 || path < -1 || path >= paths.size()) return BAD;
        shelves[shelf] = path < 0 ? null : paths.get(path);
        return 1;
    }

    int row(int shelf, int sort, int n) {
        if (shelf < 0 || shelf > 5 || sort < 0 || sort > 4 || n > 60) return BAD;
        try {
            shelves[shelf] = sort == 0 ? new byte[n] : sort == 1 ? new short[n] : sort == 2 ? new int[n]
                : sort == 3 ? (Object) new long[n] : new boolean[n];
        } catch (NegativeArraySizeException e) {
            return -14;
        }
        return 1;
    }

    private long at(int shelf, int i, boolean put, long v) {
        if (shelf < 0 || shelf > 5) return BAD;
        Object o = shelves[shelf];
        if (o == null) return -11;
        try {
            if (o instanceof byte[] b) { if (put) b[i] = (byte) v; return b[i]; }
            if (o instanceof short[] b) { if (put) b[i] = (short) v; return b[i]; }
            if (o instanceof int[] b) { if (put) b[i] = (int) v; return b[i]; }
            if (o instanceof long[] b) { if (put) b[i] = v; return b[i]; }
            if (o instanceof boolean[] b) { if (put) b[i] = v != 0; return b[i] ? 1 : 0; }
            return -12;
        } catch (ArrayIndexOutOfBoundsException e) {
            return -13;
        }
    }

    private boolean reaches(int shelf, int i) {
        if (shelf < 0 || shelf > 5 || shelves[shelf] == null || shelves[shelf] instanceof Path) return false;
        return i >= 0 && i < java.lang.reflect.Array.getLength(shelves[shelf]);
    }

    int put(int shelf, int i, long v) {
        long r = at(shelf, i, true, v);
        return reaches(shelf, i) ? 1 : (int) r;
    }

    long element(int shelf, int i) {
        return reaches(shelf, i) ? at(shelf, i, false, 0) : Long.MIN_VALUE;
    }

    int shift(int shelf, int i, int other, int j, int n) {
        if (shelf < 0 || shelf > 5 || other < 0 || other > 5) return BAD;
        try {
            System.arraycopy(shelves[shelf], i, shelves[other], j, n);
            return n;
        } catch (NullPointerException e) {
            return -11;
        } catch (ArrayStoreException e) {
            return -12;
        } catch (IndexOutOfBoundsException e) {
            return -13;
        }
    }

    int taken(int shelf, int k) {
        if (shelf < 0 || shelf > 5 || k < 0 || k > 6) return BAD;
        if (shelves[shelf] == null) return -11;
        try {
            return KINDS.indexOf(KINDS.get(k).cast(shelves[shelf]).getClass());
        } catch (ClassCastException e) {
            return -12;
        }
    }

    int count(int what) {
        int[] all = {towns.size(), tape.length(), list.size(), done.size(), paths.size(), trace.size()};
        return what < 0 || what > 5 ? BAD : all[what];
    }
}
