import java.util.ArrayList;
import java.util.List;

/** Promises 32 to 41 at their boundaries: just within, at, just beyond; each run on a new object (see Runs). */
public final class BoundaryShelvesTest {
    private static final String[] SORTS = {"bytes", "shorts", "ints", "longs", "booleans"};
    private static final Runs r = new Runs();

    public static void main(String[] args) {
        promise32();
        promise33();
        promise33Wraps();
        promise34();
        promise35();
        promise36();
        promise37And38();
        promise37LowestBits();
        promise39();
        promise39Kinds();
        promise40();
        promise41();
        r.end();
    }

    private static List<String> rows(String... some) {
        return new ArrayList<>(List.of(some));
    }

    private static void promise32() {
        r.run("32: kind", "lost() = 0", "path(-1, 0) = BAD", "path(0, 0) = 0", "path(6, 0) = 1", "path(7, 0) = BAD",
            "path(MIN, 0) = BAD", "path(MAX, 0) = BAD", "count(4) = 2");
        r.run("32: the first charter and the last", "path(0, 0) = BAD", "2 x lost()", "path(0, -1) = BAD", "path(0, 0) = 0",
            "path(0, 1) = 1", "path(0, 2) = BAD", "path(0, MIN) = BAD", "path(0, MAX) = BAD", "count(4) = 2");
        List<String> hundred = rows("12 x lost()");
        for (int i = 0; i < 100; i++) {
            hundred.add("path(" + i % 7 + ", " + i % 12 + ") = " + i);
        }
        hundred.addAll(List.of("path(0, 0) = FULL", "path(6, 11) = FULL", "path(7, 0) = BAD", "path(-1, 0) = BAD", "path(0, 12) = BAD",
            "path(0, -1) = BAD", "count(4) = 100", "act(99, 0, 0) = 99", "keep(0, 99) = 1", "keep(0, 100) = BAD"));
        r.run("32: a hundred, and no more; BAD ahead of FULL", hundred);
    }

    private static void promise33() {
        r.run("33: act", "lost() = 0", "2 x path(0, 0)", "act(1, -1, 7) = 0", "act(1, 0, 7) = 8", "act(1, 1, 7) = 16", "act(1, 2, 7) = 6",
            "act(1, 3, 7) = 16", "act(1, 4, 7) = 0", "act(1, MIN, 7) = 0", "act(1, MAX, 7) = 0");
        r.run("33: path", "act(0, 0, 7) = 0", "lost() = 0", "2 x path(0, 0)", "act(-1, 0, 7) = 0", "act(0, 0, 7) = 7", "act(1, 0, 7) = 8",
            "act(2, 0, 7) = 0", "act(MIN, 0, 7) = 0", "act(MAX, 0, 7) = 0");
        for (String call : List.of("act(0, 4, 7)", "act(0, -1, 7)", "act(1, 0, 7)", "act(-1, 0, 7)")) {
            r.run("33: no TRACE then: " + call, "lost() = 0", "path(5, 0) = 0", "act(0, 3, 1) = 2", "count(5) = 9", "trace(8) = 1",
                call + " = 0", "count(5) = 0", "trace(0) = BAD", "trace(8) = BAD", "count(3) = 0", "act(0, 0, 7) = 8", "count(5) = 2");
        }
        // path 0 to 6 of kind 0 to 6, each of charter 1
        int[][] due = {{5, 10, 5, 9}, {6, 13, 4, 13}, {7, 14, 21, 5}, {7, 15, 6, 8}, {9, 18, -1, 23}, {11, 22, 8, 18}, {11, 19, 3, 12}};
        for (int kind = 0; kind < 7; kind++) {
            List<String> rows = rows("2 x lost()");
            for (int k = 0; k < 7; k++) {
                rows.add("path(" + k + ", 1) = " + k);
            }
            for (int act = 0; act < 4; act++) {
                rows.add("act(" + kind + ", " + act + ", 5) = " + due[kind][act]);
            }
            r.run("33: acts of kind " + kind, rows);
        }
    }

    private static void promise33Wraps() {
        String[][] due = {
            {"0", "0", "MAX", "MIN"}, {"0", "1", "0x3fffffff", "MIN"}, {"0", "1", "MAX", "0"}, {"0", "2", "MIN", "MIN+1"},
            {"0", "3", "0x3fffffff", "MIN"}, {"0", "3", "0x40000000", "MIN+2"}, {"1", "1", "0x3fffffff", "MIN"},
            {"2", "2", "0x2aaaaaaa", "MIN+1"}, {"2", "2", "MAX", "MAX-5"}, {"3", "0", "MAX", "MAX"}, {"3", "0", "MIN", "MIN"},
            {"4", "2", "MIN+1", "MIN"}, {"4", "2", "MIN", "MAX"}, {"5", "0", "MAX", "MIN+1"}, {"5", "0", "MAX-1", "MIN"},
            {"6", "1", "0x3fffffff", "MAX-2"}};
        for (String[] d : due) {
            r.run("33: it wraps: kind " + d[0] + ", act " + d[1] + " of " + d[2], "lost() = 0", "path(0, 0) = 0",
                "path(" + d[0] + ", 0) = 1", "act(1, " + d[1] + ", " + d[2] + ") = " + d[3]);
        }
    }

    private static void promise34() {
        int[][][] due = {
            {{1}, {10, 1}, {11}, {2, 10, 1, 11}},
            {{1}, {20, 10, 1}, {11}, {2, 20, 10, 1, 11}},
            {{1}, {10, 1}, {30, 11}, {2, 10, 1, 30, 11}},
            {{40, 1}, {20, 10, 40, 1}, {11}, {41, 2, 20, 10, 40, 1, 11}},
            {{1}, {10, 1}, {50, 11}, {2, 10, 1, 50, 11}},
            {{60, 1}, {10, 60, 1}, {61, 50, 11, 60, 1}, {2, 10, 60, 1, 61, 50, 11, 60, 1}},
            {{1}, {70, 20, 10, 1, 11}, {11}, {2, 70, 20, 10, 1, 11, 11}}};
        for (int kind = 0; kind < 7; kind++) {
            for (int act = 0; act < 4; act++) {
                List<String> rows = rows("lost() = 0", "trace(0) = BAD", "path(" + kind + ", 0) = 0", "trace(0) = BAD",
                    "1 x act(0, " + act + ", 3)", "trace(-1) = BAD");
                int[] bodies = due[kind][act];
                for (int i = 0; i < bodies.length; i++) {
                    rows.add("trace(" + i + ") = " + bodies[i]);
                }
                rows.addAll(List.of("trace(" + bodies.length + ") = BAD", "count(5) = " + bodies.length, "trace(23) = BAD",
                    "trace(24) = BAD", "trace(MIN) = BAD", "trace(MAX) = BAD"));
                r.run("34: bodies of kind " + kind + ", act " + act, rows);
            }
        }
        r.run("34: of the latest act alone", "lost() = 0", "path(5, 0) = 0", "act(0, 3, 1) = 2", "trace(8) = 1", "act(0, 0, 1) = 2",
            "trace(0) = 60", "trace(1) = 1", "trace(2) = BAD", "trace(8) = BAD", "count(5) = 2");
    }

    private static void promise35() {
        r.run("35: shelf", "lost() = 0", "path(3, 0) = 0", "keep(-1, 0) = BAD", "keep(0, 0) = 1", "keep(5, 0) = 1", "keep(6, 0) = BAD",
            "keep(MIN, 0) = BAD", "keep(MAX, 0) = BAD", "taken(0, 0) = 3", "taken(1, 0) = -11", "taken(5, 0) = 3");
        r.run("35: path", "keep(0, 0) = BAD", "lost() = 0", "keep(0, 0) = BAD", "path(3, 0) = 0", "path(4, 0) = 1", "keep(0, -2) = BAD",
            "keep(0, -1) = 1", "taken(0, 0) = -11", "keep(0, 0) = 1", "taken(0, 0) = 3", "keep(0, 1) = 1", "taken(0, 0) = 4",
            "keep(0, 2) = BAD", "keep(0, MIN) = BAD", "keep(0, MAX) = BAD", "taken(0, 0) = 4", "keep(0, -1) = 1", "taken(0, 0) = -11");
        r.run("35: in place of a row", "lost() = 0", "path(3, 0) = 0", "row(0, 2, 3) = 1", "put(0, 0, 7) = 1", "keep(0, 1) = BAD",
            "keep(0, -2) = BAD", "element(0, 0) = 7", "keep(0, 0) = 1", "element(0, 0) = LOWEST", "put(0, 0, 1) = -12", "keep(0, -1) = 1",
            "put(0, 0, 1) = -11", "row(0, 2, 3) = 1", "element(0, 0) = 0");
        r.run("35: nothing in place of nothing", "keep(5, -1) = 1", "taken(5, 0) = -11");
    }

    private static void promise36() {
        r.run("36: shelf", "row(-1, 0, 1) = BAD", "row(0, 0, 1) = 1", "row(5, 0, 1) = 1", "row(6, 0, 1) = BAD", "row(MIN, 0, 1) = BAD",
            "row(MAX, 0, 1) = BAD", "element(0, 0) = 0", "element(5, 0) = 0", "element(1, 0) = LOWEST");
        r.run("36: sort", "row(0, -1, 1) = BAD", "row(0, 0, 1) = 1", "row(0, 1, 1) = 1", "row(0, 2, 1) = 1", "row(0, 3, 1) = 1",
            "row(0, 4, 1) = 1", "row(0, 5, 1) = BAD", "row(0, MIN, 1) = BAD", "row(0, MAX, 1) = BAD");
        r.run("36: n", "row(0, 0, -1) = -14", "row(0, 0, 0) = 1", "element(0, 0) = LOWEST", "row(0, 0, 1) = 1", "element(0, 0) = 0",
            "element(0, 1) = LOWEST", "row(0, 0, 60) = 1", "element(0, 59) = 0", "element(0, 60) = LOWEST", "row(0, 0, 61) = BAD",
            "row(0, 0, MIN) = -14", "row(0, 0, MAX) = BAD", "element(0, 59) = 0");
        r.run("36: BAD ahead of -14", "row(6, 0, -1) = BAD", "row(-1, 0, -1) = BAD", "row(0, 5, -1) = BAD", "row(0, -1, -1) = BAD",
            "row(0, 4, -1) = -14", "taken(0, 0) = -11");
        for (int sort = 0; sort < 5; sort++) {
            r.run("36: " + SORTS[sort] + ", 0 at first, and what is refused leaves them", "row(2, " + sort + ", 60) = 1",
                "element(2, 0) = 0", "element(2, 59) = 0", "put(2, 0, 1) = 1", "put(2, 59, 1) = 1", "row(2, " + sort + ", -1) = -14",
                "row(2, " + sort + ", 61) = BAD", "row(2, 5, 60) = BAD", "element(2, 0) = 1", "element(2, 59) = 1", "element(2, 1) = 0",
                "row(2, " + sort + ", 60) = 1", "element(2, 0) = 0", "element(2, 59) = 0");
        }
        r.run("36: in place of a path", "lost() = 0", "path(0, 0) = 0", "keep(0, 0) = 1", "row(0, 0, -1) = -14", "row(0, 0, 61) = BAD",
            "taken(0, 0) = 0", "row(0, 0, 0) = 1", "taken(0, 0) = -12");
        r.run("36: each shelf its own", "row(0, 3, 2) = 1", "row(1, 3, 2) = 1", "put(0, 1, 7) = 1", "element(1, 1) = 0", "put(1, 1, 8) = 1",
            "element(0, 1) = 7");
    }

    private static void promise37And38() {
        r.run("37: shelf", "put(-1, 0, 1) = BAD", "put(0, 0, 1) = -11", "put(5, 0, 1) = -11", "put(6, 0, 1) = BAD", "put(MIN, 0, 1) = BAD",
            "put(MAX, 0, 1) = BAD", "row(5, 0, 1) = 1", "put(5, 0, 1) = 1", "element(5, 0) = 1");
        r.run("38: shelf", "element(-1, 0) = LOWEST", "element(0, 0) = LOWEST", "element(5, 0) = LOWEST", "element(6, 0) = LOWEST",
            "element(MIN, 0) = LOWEST", "element(MAX, 0) = LOWEST");
        for (int n : new int[] {1, 2, 59, 60}) {
            int last = n - 1;
            r.run("37, 38: i of " + n, "row(0, 2, " + n + ") = 1", "put(0, -1, 7) = -13", "put(0, 0, 8) = 1",
                "put(0, " + last + ", 9) = 1", "put(0, " + n + ", 10) = -13", "put(0, MIN, 7) = -13", "put(0, MAX, 7) = -13",
                "element(0, -1) = LOWEST", "element(0, 0) = " + (n == 1 ? 9 : 8), "element(0, " + last + ") = 9",
                "element(0, " + n + ") = LOWEST", "element(0, MIN) = LOWEST", "element(0, MAX) = LOWEST");
        }
        r.run("37, 38: an empty row", "row(0, 2, 0) = 1", "put(0, 0, 1) = -13", "put(0, -1, 1) = -13", "element(0, 0) = LOWEST");
        r.run("37, 38: a shorter row in place of a longer one", "row(0, 2, 60) = 1", "put(0, 5, 7) = 1", "row(0, 2, 5) = 1",
            "put(0, 5, 7) = -13", "element(0, 5) = LOWEST", "put(0, 4, 7) = 1", "element(0, 4) = 7", "row(0, 2, 6) = 1",
            "element(0, 5) = 0");
        r.run("37, 38: nothing there, wherever", "put(0, -1, 1) = -11", "put(0, 60, 1) = -11", "element(0, -1) = LOWEST");
        r.run("37, 38: a path, wherever", "lost() = 0", "path(0, 0) = 0", "keep(0, 0) = 1", "put(0, 0, 1) = -12", "put(0, -1, 1) = -12",
            "put(0, 60, 1) = -12", "element(0, 0) = LOWEST", "taken(0, 0) = 0");
    }

    private static void promise37LowestBits() {
        String[][] kept = {
            {"0", "127", "127"}, {"0", "128", "-128"}, {"0", "-128", "-128"}, {"0", "-129", "127"}, {"0", "255", "-1"}, {"0", "256", "0"},
            {"0", "LOWEST", "0"}, {"1", "32767", "32767"}, {"1", "32768", "-32768"}, {"1", "-32768", "-32768"}, {"1", "-32769", "32767"},
            {"1", "65535", "-1"}, {"1", "65536", "0"}, {"2", "MAX", "MAX"}, {"2", "MAX+1", "MIN"}, {"2", "MIN", "MIN"}, {"2", "MIN-1", "MAX"},
            {"2", "0xffffffff", "-1"}, {"2", "0x100000000", "0"}, {"3", "LOWEST", "LOWEST"}, {"3", "LOWEST-1", "0x7fffffffffffffff"},
            {"3", "MAX+1", "MAX+1"}, {"3", "0x100000000", "0x100000000"}, {"3", "-1", "-1"}, {"4", "0", "0"}, {"4", "1", "1"}, {"4", "-1", "1"},
            {"4", "2", "1"}, {"4", "256", "1"}, {"4", "0x100000000", "1"}, {"4", "LOWEST", "1"}};
        for (String[] k : kept) {
            r.run("37, 38: " + SORTS[Integer.parseInt(k[0])] + " keep of " + k[1], "row(0, " + k[0] + ", 3) = 1",
                "put(0, 1, " + k[1] + ") = 1", "element(0, 1) = " + k[2], "element(0, 0) = 0", "element(0, 2) = 0", "put(0, 1, 0) = 1",
                "element(0, 1) = 0");
        }
    }

    private static void promise39() {
        List<String> five = rows("row(0, 2, 5) = 1", "row(1, 2, 4) = 1");
        for (int i = 0; i < 5; i++) {
            five.add("put(0, " + i + ", " + (i + 1) + ") = 1");
        }
        String[][] moves = {
            // n elements from i on, to j on: to the end of the one, of the other; one beyond either
            {"1, 1, 0, 4", "4", "2345"}, {"2, 1, 0, 4", "-13", "0000"}, {"0, 1, 0, 4", "4", "1234"}, {"0, 1, 1, 4", "-13", "0000"},
            {"0, 1, 0, 5", "-13", "0000"}, {"0, 1, 1, 3", "3", "0123"}, {"4, 1, 3, 1", "1", "0005"}, {"5, 1, 3, 1", "-13", "0000"},
            {"4, 1, 4, 1", "-13", "0000"}, {"4, 1, 3, 2", "-13", "0000"}, {"5, 1, 4, 0", "0", "0000"}, {"6, 1, 4, 0", "-13", "0000"},
            {"5, 1, 5, 0", "-13", "0000"}, {"0, 1, 0, 0", "0", "0000"}, {"0, 1, 0, -1", "-13", "0000"}, {"3, 1, 3, -1", "-13", "0000"},
            {"-1, 1, 0, 1", "-13", "0000"}, {"0, 1, -1, 1", "-13", "0000"}, {"-1, 1, 0, 0", "-13", "0000"}, {"0, 1, -1, 0", "-13", "0000"},
            {"MAX, 1, 0, 1", "-13", "0000"}, {"1, 1, 0, MAX", "-13", "0000"}, {"0, 1, 1, MAX", "-13", "0000"}, {"0, 1, MAX, 1", "-13", "0000"},
            {"MIN, 1, 0, 1", "-13", "0000"}, {"0, 1, MIN, 1", "-13", "0000"}, {"0, 1, 0, MIN", "-13", "0000"},
            {"MAX, 1, MAX, MAX", "-13", "0000"}, {"1, 1, 1, MIN", "-13", "0000"}};
        for (String[] m : moves) {
            List<String> rows = new ArrayList<>(five);
            rows.add("shift(0, " + m[0] + ") = " + m[1]);
            for (int i = 0; i < 4; i++) {
                rows.add("element(1, " + i + ") = " + m[2].charAt(i));
            }
            rows.add("element(0, 0) = 1");
            rows.add("element(0, 4) = 5");
            r.run("39: shift(0, " + m[0] + ")", rows);
        }
        String[][] within = {{"0, 0, 1, 4", "4", "11234"}, {"1, 0, 0, 4", "4", "23455"}, {"0, 0, 0, 5", "5", "12345"},
            {"0, 0, 2, 3", "3", "12123"}, {"2, 0, 0, 3", "3", "34545"}, {"0, 0, 2, 4", "-13", "12345"}, {"2, 0, 0, 4", "-13", "12345"},
            {"5, 0, 5, 0", "0", "12345"}, {"1, 0, 3, 2", "2", "12323"}};
        for (String[] m : within) {
            List<String> rows = new ArrayList<>(five);
            rows.add("shift(0, " + m[0] + ") = " + m[1]);
            for (int i = 0; i < 5; i++) {
                rows.add("element(0, " + i + ") = " + m[2].charAt(i));
            }
            r.run("39: as they all were before: shift(0, " + m[0] + ")", rows);
        }
    }

    private static void promise39Kinds() {
        r.run("39: shelf", "6 x row(0, 0, 1)", "row(5, 0, 1) = 1", "shift(-1, 0, 0, 0, 1) = BAD", "shift(0, 0, -1, 0, 1) = BAD",
            "shift(0, 0, 5, 0, 1) = 1", "shift(5, 0, 0, 0, 1) = 1", "shift(6, 0, 0, 0, 1) = BAD", "shift(0, 0, 6, 0, 1) = BAD",
            "shift(MIN, 0, 0, 0, 1) = BAD", "shift(0, 0, MAX, 0, 1) = BAD");
        r.run("39: BAD ahead of -11", "shift(0, 0, 6, 0, 1) = BAD", "shift(-1, 0, 0, 0, 1) = BAD", "shift(0, 0, 1, 0, 1) = -11");
        r.run("39: nothing in either", "row(0, 0, 5) = 1", "shift(0, 0, 1, 0, 1) = -11", "shift(1, 0, 0, 0, 1) = -11",
            "shift(1, 0, 2, 0, 1) = -11", "shift(0, 0, 1, 0, 0) = -11", "shift(0, 9, 1, 0, -1) = -11");
        r.run("39: -11 ahead of -12", "lost() = 0", "path(0, 0) = 0", "keep(0, 0) = 1", "shift(0, 0, 1, 0, 1) = -11",
            "shift(1, 0, 0, 0, 1) = -11", "shift(0, 0, 0, 0, 1) = -12");
        r.run("39: no rows", "lost() = 0", "path(0, 0) = 0", "keep(0, 0) = 1", "row(1, 0, 5) = 1", "shift(0, 0, 1, 0, 1) = -12",
            "shift(1, 0, 0, 0, 1) = -12", "shift(1, 9, 0, 0, -1) = -12", "shift(0, 0, 0, 0, 0) = -12");
        for (int one = 0; one < 5; one++) {
            for (int two = 0; two < 5; two++) {
                boolean like = one == two;
                r.run("39: " + SORTS[one] + " to " + SORTS[two], "row(0, " + one + ", 5) = 1", "row(1, " + two + ", 5) = 1",
                    "put(0, 4, 1) = 1", "shift(0, 4, 1, 3, 1) = " + (like ? 1 : -12), "shift(0, 5, 1, 3, 1) = " + (like ? -13 : -12),
                    "shift(0, 0, 1, 0, -1) = " + (like ? -13 : -12), "element(1, 3) = " + (like ? 1 : 0), "element(1, 4) = 0");
            }
        }
        r.run("39: sixty", "row(0, 3, 60) = 1", "row(1, 3, 60) = 1", "put(0, 0, LOWEST) = 1", "put(0, 59, 7) = 1",
            "shift(0, 0, 1, 0, 60) = 60", "element(1, 0) = LOWEST", "element(1, 59) = 7", "shift(0, 0, 1, 0, 61) = -13");
    }

    private static void promise40() {
        int[] above = {-1, 0, 0, 1, 0, 4, 1};
        for (int kind = 0; kind < 7; kind++) {
            List<String> rows = rows("lost() = 0", "path(" + kind + ", 0) = 0", "keep(3, 0) = 1", "taken(3, -1) = BAD");
            for (int k = 0; k < 7; k++) {
                boolean is = k == kind || k == 0 || k == above[kind];
                rows.add("taken(3, " + k + ") = " + (is ? kind : -12));
            }
            rows.addAll(List.of("taken(3, 7) = BAD", "taken(3, MIN) = BAD", "taken(3, MAX) = BAD"));
            r.run("40: a path of kind " + kind, rows);
        }
        r.run("40: shelf", "lost() = 0", "path(0, 0) = 0", "taken(-1, 0) = BAD", "taken(0, 0) = -11", "taken(5, 0) = -11",
            "taken(6, 0) = BAD", "keep(0, 0) = 1", "keep(5, 0) = 1", "taken(0, 0) = 0", "taken(5, 0) = 0", "taken(MIN, 0) = BAD",
            "taken(MAX, 0) = BAD");
        r.run("40: BAD ahead of -11 and -12", "taken(0, 7) = BAD", "taken(0, -1) = BAD", "taken(0, 6) = -11", "row(0, 0, 1) = 1",
            "taken(0, 7) = BAD", "taken(0, 6) = -12", "taken(0, 0) = -12");
    }

    private static void promise41() {
        r.run("41: what", "count(-1) = BAD", "count(0) = 0", "count(5) = 0", "count(6) = BAD", "count(MIN) = BAD", "count(MAX) = BAD");
        r.run("41: each its own", "3 x lost()", "2 x path(5, 0)", "list(1) = 1", "feed(4, 0) = 4", "5 x price(0, 1)", "price(0, 2) = 1",
            "price(0, 3) = 2", "undo() = 2", "act(0, 3, 0) = 0", "count(0) = 3", "count(1) = 4", "count(2) = 1", "count(3) = 2", "count(4) = 2",
            "count(5) = 9", "count(-1) = BAD", "count(6) = BAD");
        r.run("41: the 512th call is answered as the first", "510 x price(0, 1)", "count(3) = 1", "count(0) = 0");
        r.run("41: as many as there can be", "12 x lost()", "30 x feed(4, 0)", "100 x path(0, 0)", "list(0) = 1", "list(1) = 2", "list(2) = 3",
            "list(3) = 4", "list(4) = 5", "list(5) = 6", "20 x price(0, 1)", "count(0) = 12", "count(1) = 120", "count(2) = 6",
            "count(3) = 1", "count(4) = 100", "count(5) = 0");
    }
}
