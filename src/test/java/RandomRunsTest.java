import java.util.Random;

/** Long runs of calls, the class against the model of the document, answer by answer (fixed seeds). */
public final class RandomRunsTest {
    private static final Checks checks = new Checks();

    private final Random random;
    private final MotherTowns x = new MotherTowns();
    private final Model model = new Model();
    private final int seed;
    private final int most;
    private final int clauses;
    private int calls;

    private RandomRunsTest(int seed, int most, int clauses) {
        this.seed = seed;
        this.most = most;
        this.clauses = clauses;
        random = new Random(seed);
    }

    public static void main(String[] args) {
        for (int seed = 1; seed <= 240 && checks.wrong() == 0; seed++) {
            int most = seed % 3 == 0 ? 12 : 3 + seed % 4;
            new RandomRunsTest(seed, most, seed % 5 == 0 ? 16 : 3 + seed % 7).run();
        }
        checks.end();
    }

    private void run() {
        int start = 2 + random.nextInt(most);
        for (int i = 0; i < start; i++) {
            feedText(text(random.nextInt(8) == 0));
            due("charter", x.charter(), model.charter());
        }
        while (calls < 512) {
            step(random.nextInt(42));
        }
    }

    private void due(String call, long got, long want) {
        calls++;
        checks.due("seed " + seed + ", call " + calls + ": " + call, got, want);
    }

    private int below(int n) {
        return random.nextInt(n);
    }

    /** Mostly within 0 .. n - 1, now and then beyond it. */
    private int near(int n) {
        switch (random.nextInt(30)) {
            case 0:
                return -1;
            case 1:
                return n;
            case 2:
                return random.nextInt();
            default:
                return n > 0 ? random.nextInt(n) : 0;
        }
    }

    private int town() {
        return near(model.towns.size());
    }

    private int clause() {
        return random.nextInt(20) == 0 ? near(16) : random.nextInt(clauses);
    }

    private int form() {
        int[] all = {0, 1, 2, 3, 9, 9};
        return random.nextInt(25) == 0 ? near(11) : all[random.nextInt(6)];
    }

    private String text(boolean torn) {
        StringBuilder s = new StringBuilder();
        int first = random.nextInt(3) == 0 ? random.nextInt(1000) : 100 + random.nextInt(12);
        s.append(first);
        if (random.nextInt(3) > 0) {
            s.append('-').append(Math.min(999, first + random.nextInt(10)));
        }
        for (int k = 0; k < clauses; k++) {
            if (random.nextInt(4) > 0) {
                s.append(',').append((char) ('a' + k)).append("00123?".charAt(random.nextInt(6)));
            }
        }
        if (random.nextBoolean()) {
            s.append('<').append(Math.max(0, random.nextInt(model.towns.size() + 1) - random.nextInt(2)));
        }
        if (torn) {
            int at = random.nextInt(s.length());
            if (random.nextBoolean()) {
                s.setCharAt(at, "0123459,-<?apq \u00e9".charAt(random.nextInt(15)));
            } else {
                s.deleteCharAt(at);
            }
        }
        return s.toString();
    }

    private void feedText(String text) {
        for (int i = 0; i < text.length(); i += 4) {
            int n = Math.min(4, text.length() - i);
            int v = random.nextInt();
            for (int k = 0; k < n; k++) {
                v = v & ~(255 << 8 * k) | text.charAt(i + k) << 8 * k;
            }
            due("feed", x.feed(n, v), model.feed(n, v));
        }
    }

    private void step(int which) {
        switch (which) {
            case 0: towns(); break;
            case 1: case 2: tell(); break;
            case 3: case 4: case 5: motherTold(); break;
            case 6: case 7: case 8: case 9: case 10: hand(); break;
            case 11: case 12: case 13: case 14: listed(); break;
            case 15: case 16: case 17: borrowed(); break;
            case 18: case 19: case 20: case 21: claimed(); break;
            case 22: case 23: case 24: slipped(); break;
            case 25: case 26: case 27: undone(); break;
            case 28: case 29: case 30: case 31: walked(); break;
            case 32: case 33: case 34: case 35: case 36: case 37: shelved(); break;
            default: formed(); break;
        }
    }

    private void towns() {
        if (random.nextInt(6) == 0) {
            int n = near(5), v = random.nextInt();
            due("feed(" + n + ", " + v + ")", x.feed(n, v), model.feed(n, v));
        }
        if (model.towns.size() >= most && random.nextInt(4) > 0) return;
        if (model.towns.size() < most && random.nextInt(3) == 0) {
            due("lost()", x.lost(), model.lost());
        } else if (model.towns.size() < most) {
            if (random.nextInt(10) > 0) feedText(text(random.nextBoolean()));
            due("charter()", x.charter(), model.charter());
        } else if (most == 12) {
            due("charter()", x.charter(), model.charter());
            due("lost()", x.lost(), model.lost());
        }
    }

    private void tell() {
        int a = town(), b = town(), what = near(26);
        due("ofCharter(" + a + ", " + what + ")", x.ofCharter(a, what), model.ofCharter(a, what));
        what = near(3);
        due("same(" + a + ", " + b + ", " + what + ")", x.same(a, b, what), model.same(a, b, what));
        due("digest()", x.digest(), model.digest());
        what = near(6);
        due("count(" + what + ")", x.count(what), model.count(what));
    }

    private void formed() {
        int c = town(), k = clause(), v = form();
        due("form(" + c + ", " + k + ", " + v + ")", x.form(c, k, v), model.form(c, k, v));
        if (random.nextInt(4) == 0) {
            int which = near(5);
            v = random.nextInt(3) > 0 ? random.nextInt(12) : near(100);
            due("price(" + which + ", " + v + ")", x.price(which, v), model.price(which, v));
        }
    }

    private void motherTold() {
        int c = town(), m = random.nextInt(6) == 0 ? -1 : town();
        due("mother(" + c + ", " + m + ")", x.mother(c, m), model.mother(c, m));
    }

    private void hand() {
        int c = town(), k = clause(), what = near(3);
        int all = random.nextInt(3) == 0 ? -1 : k;
        due("cost(" + all + ")", x.cost(all), model.cost(all));
        due("filled(" + c + ", " + k + ")", x.filled(c, k), model.filled(c, k));
        due("days(" + c + ", " + what + ")", x.days(c, what), model.days(c, what));
    }

    private void listed() {
        int c = town();
        int limit = random.nextInt(12) == 0 ? 7 : 4;
        if (model.list.size() < limit) due("list(" + c + ")", x.list(c), model.list(c));
        if (random.nextInt(9) == 0) due("unlist()", x.unlist(), model.unlist());
        if (model.list.size() > 5 && random.nextInt(3) > 0) return;
        int what = near(5);
        due("best(" + what + ")", x.best(what), model.best(what));
        int place = near(model.list.size());
        int found = model.list.size() < 2 ? 0 : Math.max(0, model.best(1));
        int i = near(found);
        due("tree(" + i + ", " + place + ")", x.tree(i, place), model.tree(i, place));
        due("never(" + place + ")", x.never(place), model.never(place));
        due("claim(" + c + ")", x.claim(c), model.claim(c));
    }

    private void borrowed() {
        int c = town(), k = clause(), n = random.nextInt(3) == 0 ? near(21) : random.nextInt(5);
        due("few(" + n + ")", x.few(n), model.few(n));
        due("from(" + c + ", " + k + ")", x.from(c, k), model.from(c, k));
    }

    private void claimed() {
        int c = town(), k = clause(), what = near(2);
        due("doubt(" + what + ")", x.doubt(what), model.doubt(what));
        due("law(" + c + ", " + k + ")", x.law(c, k), model.law(c, k));
        due("cameIn(" + c + ", " + k + ")", x.cameIn(c, k), model.cameIn(c, k));
        int pair = model.pairs(-1) > 0 ? near(model.pairs(-1)) : near(2);
        due("pairs(" + pair + ")", x.pairs(pair), model.pairs(pair));
        due("pairs(-1)", x.pairs(-1), model.pairs(-1));
        if (random.nextInt(3) == 0) due("freed()", x.freed(), model.freed());
    }

    private void slipped() {
        int from = number(), to = number();
        due("slip(" + from + ", " + to + ")", x.slip(from, to), model.slip(from, to));
        due("chain(" + from + ", " + to + ")", x.chain(from, to), model.chain(from, to));
    }

    private int number() {
        int[] ends = {9, 99, 999, 9999, 99999};
        return random.nextInt(20) == 0 ? near(100000) : 1 + random.nextInt(ends[random.nextInt(5)]);
    }

    private void undone() {
        if (random.nextInt(40) == 0) {
            for (int i = 0; i < 50 && calls < 512; i++) due("undo()", x.undo(), model.undo());
        }
        for (int i = random.nextInt(4); i > 0; i--) due("undo()", x.undo(), model.undo());
        for (int i = random.nextInt(3); i > 0; i--) due("redo()", x.redo(), model.redo());
        due("count(3)", x.count(3), model.count(3));
    }

    private void walked() {
        int kind = near(7), c = town();
        due("path(" + kind + ", " + c + ")", x.path(kind, c), model.path(kind, c));
        int p = near(model.paths.size()), act = near(4);
        int v = random.nextInt(3) == 0 ? random.nextInt() : random.nextInt(40) - 10;
        due("act(" + p + ", " + act + ", " + v + ")", x.act(p, act, v), model.act(p, act, v));
        due("count(5)", x.count(5), model.count(5));
        int i = near(Math.max(1, model.trace.size()));
        due("trace(" + i + ")", x.trace(i), model.trace(i));
    }

    private void shelved() {
        int s = near(6), o = near(6), i = near(8), j = near(8), n = random.nextInt(8) == 0 ? near(61) : random.nextInt(8) - 1;
        switch (random.nextInt(7)) {
            case 0:
                int sort = random.nextBoolean() ? 0 : near(5);
                due("row(" + s + ", " + sort + ", " + n + ")", x.row(s, sort, n), model.row(s, sort, n));
                break;
            case 1:
                int p = random.nextInt(4) == 0 ? -1 : near(model.paths.size());
                due("keep(" + s + ", " + p + ")", x.keep(s, p), model.keep(s, p));
                break;
            case 2:
            case 3:
                long v = random.nextInt(3) == 0 ? random.nextLong() : form();
                due("put(" + s + ", " + i + ", " + v + ")", x.put(s, i, v), model.put(s, i, v));
                due("element(" + s + ", " + i + ")", x.element(s, i), model.element(s, i));
                break;
            case 4:
                due("shift(" + s + ", " + i + ", " + o + ", " + j + ", " + n + ")",
                    x.shift(s, i, o, j, n), model.shift(s, i, o, j, n));
                for (int e = 0; e < 6; e++) due("element(" + o + ", " + e + ")", x.element(o, e), model.element(o, e));
                break;
            case 5:
                int k = near(7);
                due("taken(" + s + ", " + k + ")", x.taken(s, k), model.taken(s, k));
                break;
            default:
                int c = town(), m = near(17), at = random.nextInt(4) == 0 ? near(6) : 0;
                due("forms(" + c + ", " + s + ", " + at + ", " + m + ")", x.forms(c, s, at, m), model.forms(c, s, at, m));
        }
    }
}
