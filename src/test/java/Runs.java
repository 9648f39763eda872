import java.lang.reflect.Method;
import java.lang.reflect.Modifier;
import java.util.ArrayList;
import java.util.HashMap;
import java.util.List;
import java.util.Map;
import java.util.regex.Matcher;
import java.util.regex.Pattern;

/**
 * Runs of calls told as rows, each run on a new object. A row is one of:
 * <pre>
 *   feed(4, MAX) = FULL     a call and the answer that is due: sums of numbers and of the names below
 *   '100,a1' = 0            a text fed to the tape, and what charter() answers
 *   12 x lost()             a call so many times, whatever it answers
 * </pre>
 * Behind each call that is refused (and each text with a fault) two more objects are made, one with that call and one
 * without: nothing that can be asked may tell them apart.
 */
final class Runs {
    private static final int CALLS = 512, ELEMENTS_SEEN = 6;
    private static final Pattern CALL = Pattern.compile("(\\w+)\\(([^)]*)\\)");
    private static final Pattern TIMES = Pattern.compile("(\\d+) x (.+)");
    private static final Pattern TERM = Pattern.compile("([+-]?)\\s*(\\w+)\\s*");
    private static final Map<String, Long> NAMES = Map.of("BAD", -1L, "NOT", -2L, "FULL", -3L, "STATE", -5L, "VOID", -2000000000L,
        "MIN", (long) Integer.MIN_VALUE, "MAX", (long) Integer.MAX_VALUE, "LOWEST", Long.MIN_VALUE);
    private static final Map<String, Method> FACE = new HashMap<>();

    static {
        for (Method m : MotherTowns.class.getDeclaredMethods()) {
            if (Modifier.isPublic(m.getModifiers())) {
                FACE.put(m.getName(), m);
            }
        }
    }

    private record Call(String name, long[] args) { }

    /** An object that counts its calls: behind 512 of them its answers are free. */
    private final class Towns {
        private final MotherTowns x = new MotherTowns();
        private final List<Long> answers = new ArrayList<>();
        private int calls = 0;

        long ask(Call call) {
            calls++;
            if (calls > CALLS) {
                checks.due(run + ": at most 512 calls", calls, CALLS);
            }
            Method m = FACE.get(call.name);
            Class<?>[] types = m.getParameterTypes();
            Object[] args = new Object[types.length];
            for (int i = 0; i < args.length; i++) {
                args[i] = types[i] == long.class ? (Object) call.args[i] : (Object) (int) call.args[i];
            }
            try {
                return ((Number) m.invoke(x, args)).longValue();
            } catch (ReflectiveOperationException e) {
                throw new IllegalStateException(run + ": " + call.name, e);
            }
        }

        private long seen(String name, long... args) {
            long answer = ask(new Call(name, args));
            answers.add(answer);
            return answer;
        }

        /** All that can be asked, and at last what undoing, doing again, listing and the tape bring to light. */
        List<Long> allToSee() {
            for (int what = 0; what <= 5; what++) {
                seen("count", what);
            }
            charters();
            bestTrees();
            shelves();
            for (int i = 0; i < Math.min(24, answers.get(5)); i++) {
                seen("trace", i);
            }
            changes();
            seen("act", answers.get(4) - 1, 3, 77);
            for (int c = 0; c < answers.get(0); c++) {
                seen("list", c);
            }
            seen("charter");
            seen("ofCharter", answers.get(0), 10);
            return answers;
        }

        private void charters() {
            seen("digest");
            for (int c = 0; c < answers.get(0); c++) {
                for (int what = 0; what <= 3; what++) {
                    seen("ofCharter", c, what);
                }
            }
        }

        private void bestTrees() {
            for (int what = 0; what <= 4; what++) {
                seen("best", what);
            }
            for (int place = 0; place < answers.get(2); place++) {
                seen("tree", 0, place);
                seen("never", place);
            }
        }

        private void shelves() {
            for (int shelf = 0; shelf <= 5; shelf++) {
                if (seen("taken", shelf, 0) != -12) {
                    continue;
                }
                for (int i = 0; i < ELEMENTS_SEEN; i++) {
                    seen("element", shelf, i);
                }
                seen("element", shelf, 59);
                seen("put", shelf, 0, 0x123456789abcdefL);
                seen("element", shelf, 0);
            }
        }

        private void changes() {
            int again = 0;
            while (again <= 40 && seen("redo") >= 0) {
                again++;
            }
            seen("digest");
            for (int i = 0; i <= 40 && seen("undo") >= 0; i++) {
                if (i <= again || i % 4 == 0) {
                    seen("digest");
                }
            }
            seen("digest");
        }
    }

    private final Checks checks = new Checks();
    private String run = "";
    private List<Call> told = new ArrayList<>();
    private Towns towns = new Towns();

    /** One run on a new object. */
    void run(String name, List<String> rows) {
        run = name;
        told = new ArrayList<>();
        towns = new Towns();
        for (String row : rows) {
            Matcher times = TIMES.matcher(row);
            if (row.startsWith("'")) {
                text(row);
            } else if (times.matches()) {
                for (int i = Integer.parseInt(times.group(1)); i > 0; i--) {
                    take(call(times.group(2)));
                }
            } else {
                int at = row.indexOf('=');
                asked(row, call(row.substring(0, at)), sum(row.substring(at + 1)));
            }
        }
    }

    void run(String name, String... rows) {
        run(name, List.of(rows));
    }

    void end() {
        checks.end();
    }

    private long take(Call call) {
        told.add(call);
        return towns.ask(call);
    }

    private void asked(String row, Call call, long want) {
        List<Call> before = new ArrayList<>(told);
        long got = take(call);
        checks.due(run + ": " + row, got, want);
        if (isRefusal(call.name, got)) {
            nothingChanged(row, before, told);
        }
    }

    /** What mother() answers may be -1 with no refusal, and what act() answers anything. */
    private static boolean isRefusal(String name, long answer) {
        if (name.equals("act") || name.equals("mother") && answer == -1) {
            return false;
        }
        return answer == -1 || answer == -2 || answer == -3 || answer == -5 || answer <= -11 && answer >= -14
            || answer == NAMES.get("VOID") || answer == Long.MIN_VALUE;
    }

    private void text(String row) {
        List<Call> before = new ArrayList<>(told);
        int end = row.lastIndexOf('\'');
        String text = row.substring(1, end);
        for (int i = 0; i < text.length(); i += 4) {
            int n = Math.min(4, text.length() - i);
            long v = 0;
            for (int k = 0; k < n; k++) {
                v |= (long) text.charAt(i + k) << 8 * k;
            }
            take(new Call("feed", new long[] {n, (int) v}));
        }
        long got = take(new Call("charter", new long[0]));
        checks.due(run + ": " + row, got, sum(row.substring(row.indexOf('=', end) + 1)));
        if (got <= -100) {
            nothingChanged(row, before, told);
        }
    }

    private void nothingChanged(String row, List<Call> before, List<Call> with) {
        List<Long> one = replayed(before).allToSee();
        List<Long> two = replayed(with).allToSee();
        checks.due(run + ": " + row + ": nothing has changed", one.equals(two) ? 0 : 1, 0);
    }

    private Towns replayed(List<Call> calls) {
        Towns x = new Towns();
        for (Call call : calls) {
            x.ask(call);
        }
        return x;
    }

    private static Call call(String row) {
        Matcher m = CALL.matcher(row.trim());
        if (!m.matches() || !FACE.containsKey(m.group(1))) {
            throw new IllegalArgumentException("no call: " + row);
        }
        String inside = m.group(2).trim();
        String[] parts = inside.isEmpty() ? new String[0] : inside.split(",");
        long[] args = new long[parts.length];
        if (args.length != FACE.get(m.group(1)).getParameterCount()) {
            throw new IllegalArgumentException("not so many arguments: " + row);
        }
        for (int i = 0; i < args.length; i++) {
            args[i] = sum(parts[i]);
        }
        return new Call(m.group(1), args);
    }

    private static long sum(String terms) {
        Matcher m = TERM.matcher(terms.trim());
        long all = 0;
        int end = 0;
        while (m.lookingAt()) {
            String term = m.group(2);
            long v = NAMES.containsKey(term) ? NAMES.get(term) : Long.decode(term);
            all += m.group(1).equals("-") ? -v : v;
            end = m.end();
            m.region(end, m.regionEnd());
        }
        if (end == 0 || end != terms.trim().length()) {
            throw new IllegalArgumentException("no number: " + terms);
        }
        return all;
    }
}
