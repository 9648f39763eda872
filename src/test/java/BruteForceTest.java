import java.util.Random;

/** Small towns by trying everything: all fillings at once, all sets of borrowings at once, all leavings-out of claims. */
public final class BruteForceTest {
    private static final Checks checks = new Checks();
    private static final int[] COSTS = new int[5];

    public static void main(String[] args) {
        for (int seed = 1; seed <= 400; seed++) {
            fillings(new Random(seed));
            borrowings(new Random(seed));
        }
        slips();
        checks.end();
    }

    private static void prices(MotherTowns x, Random r) {
        for (int i = 0; i < 5; i++) {
            COSTS[i] = r.nextInt(12);
            x.price(i, COSTS[i]);
        }
    }

    private static int step(int f, int g) {
        return f == g ? 0 : f == 0 ? COSTS[0] : g == 0 ? COSTS[1] : COSTS[2];
    }

    /** Of one clause of five towns all 1024 fillings: cost, what each may be, and the law of each if it burnt. */
    private static void fillings(Random r) {
        MotherTowns x = new MotherTowns();
        prices(x, r);
        int n = 5;
        int[] mother = new int[n], form = new int[n];
        for (int i = 0; i < n; i++) {
            form[i] = r.nextInt(3) == 0 ? 9 : r.nextInt(4);
            x.lost();
            x.form(i, 2, form[i]);
            mother[i] = -1;
        }
        for (int tries = 0; tries < 8; tries++) {
            int child = r.nextInt(n), m = r.nextInt(n + 1) - 1;
            int was = x.mother(child, m);
            if (was >= -1) {
                mother[child] = m;
            }
        }
        checks.due("cost", x.cost(2), tryAll(mother, form, -1)[4]);
        for (int v = 0; v < n; v++) {
            int[] all = tryAll(mother, form, v);
            int bits = 0;
            for (int f = 0; f < 4; f++) {
                bits |= all[f] == all[4] ? 1 << f : 0;
            }
            checks.due("law", x.law(v, 2), bits);
            checks.due("filled", x.filled(v, 2), form[v] == 9 ? bits : 1 << form[v]);
        }
    }

    /** The least by each form of the burnt one, and at place 4 the least of all. */
    private static int[] tryAll(int[] mother, int[] form, int burnt) {
        int[] least = {1 << 20, 1 << 20, 1 << 20, 1 << 20, 1 << 20};
        for (int code = 0; code < 1024; code++) {
            boolean fits = true;
            int sum = 0;
            for (int v = 0; v < 5; v++) {
                int f = code >> 2 * v & 3;
                fits &= v == burnt || form[v] == 9 || form[v] == f;
                sum += mother[v] < 0 ? 0 : step(code >> 2 * mother[v] & 3, f);
            }
            if (fits) {
                least[4] = Math.min(least[4], sum);
                if (burnt >= 0) {
                    int f = code >> 2 * burnt & 3;
                    least[f] = Math.min(least[f], sum);
                }
            }
        }
        return least;
    }

    /** Three clauses of chapter 0 and one of chapter 1, two children: every set of the possible borrowings. */
    private static void borrowings(Random r) {
        MotherTowns x = new MotherTowns();
        int[] first = new int[5], last = new int[5];
        int[][] form = new int[5][4];
        int[] clause = {0, 1, 3, 6};
        for (int v = 0; v < 5; v++) {
            first[v] = 100 + r.nextInt(6);
            last[v] = first[v] + r.nextInt(4);
            StringBuilder s = new StringBuilder().append(first[v]).append('-').append(last[v]);
            for (int i = 0; i < 4; i++) {
                form[v][i] = r.nextInt(3);
                s.append(',').append((char) ('a' + clause[i])).append(form[v][i]);
            }
            for (char k = 'a'; k <= 'p'; k++) {
                if ("abdg".indexOf(k) < 0) {
                    s.append(',').append(k).append('0');
                }
            }
            Checks.tell(x, s.toString());
        }
        prices(x, r);
        x.mother(3, 0);
        x.mother(4, r.nextBoolean() ? 3 : 1);
        int over = x.mother(4, -1);
        x.mother(4, over);
        int[] mother = {-1, -1, -1, 0, over};
        int[] least = new int[21];
        java.util.Arrays.fill(least, 1 << 20);
        // each child: of whom chapter 0 and 1 come whole (5: of none), and which clauses come singly (of any that can lend)
        int[] three = childWays(3, mother, first, last, form);
        int[] four = childWays(4, mother, first, last, form);
        for (int a = 0; a <= 6; a++) {
            for (int b = 0; b <= 6; b++) {
                for (int k = a + b; k <= 20; k++) {
                    least[k] = Math.min(least[k], three[a] + four[b]);
                }
            }
        }
        for (int k = 0; k <= 20; k++) {
            checks.due("few(" + k + ")", x.few(k), least[k]);
        }
    }

    private static int[] childWays(int c, int[] mother, int[] first, int[] last, int[][] form) {
        int[] least = new int[7];
        java.util.Arrays.fill(least, 1 << 20);
        for (int one = 0; one <= 5; one++) {
            for (int two = 0; two <= 5; two++) {
                if (!lends(one, c, mother, first, last) || !lends(two, c, mother, first, last)) {
                    continue;
                }
                for (int singles = 0; singles < 16; singles++) {
                    int used = (one < 5 ? 1 : 0) + (two < 5 ? 1 : 0) + Integer.bitCount(singles);
                    int sum = (one < 5 ? COSTS[4] : 0) + (two < 5 ? COSTS[4] : 0);
                    boolean can = true;
                    for (int i = 0; i < 4; i++) {
                        int whole = i < 3 ? one : two;
                        boolean served = whole < 5 && form[whole][i] == form[c][i];
                        boolean single = (singles >> i & 1) != 0;
                        can &= !(single && served);
                        if (single) {
                            boolean some = false;
                            for (int y = 0; y < 5; y++) {
                                some |= lends(y, c, mother, first, last) && form[y][i] == form[c][i];
                            }
                            can &= some;
                            sum += COSTS[3];
                        } else if (!served) {
                            sum += step(form[mother[c]][i], form[c][i]);
                        }
                    }
                    if (can) {
                        least[used] = Math.min(least[used], sum);
                    }
                }
            }
        }
        return least;
    }

    private static boolean lends(int y, int c, int[] mother, int[] first, int[] last) {
        if (y == 5) {
            return true;
        }
        for (int x = y; x >= 0; x = mother[x]) {
            if (x == c) {
                return false;
            }
        }
        return y != mother[c] && first[y] < last[c];
    }

    /** Every pair of small numbers, and what numbers of five digits can become. */
    private static void slips() {
        MotherTowns x = new MotherTowns();
        Model model = new Model();
        for (int from = 1; from <= 130; from++) {
            for (int to = 1; to <= 1300; to++) {
                checks.due("slip(" + from + ", " + to + ")", x.slip(from, to), model.slip(from, to));
            }
        }
        Random r = new Random(5);
        for (int i = 0; i < 60; i++) {
            int from = 1 + r.nextInt(99999);
            for (int k = 0; k < 60; k++) {
                int to = near(from, r);
                checks.due("slip(" + from + ", " + to + ")", x.slip(from, to), model.slip(from, to));
                if (k < 12) {
                    checks.due("chain(" + from + ", " + to + ")", x.chain(from, to), model.chain(from, to));
                }
            }
        }
    }

    private static int near(int from, Random r) {
        StringBuilder s = new StringBuilder().append(from);
        for (int times = 1 + r.nextInt(4); times > 0; times--) {
            int at = r.nextInt(s.length());
            switch (r.nextInt(4)) {
                case 0:
                    if (s.length() > 1) s.deleteCharAt(at);
                    break;
                case 1:
                    if (s.length() < 5) s.insert(at, s.charAt(at));
                    break;
                case 2:
                    int to = r.nextInt(s.length());
                    char d = s.charAt(at);
                    s.setCharAt(at, s.charAt(to));
                    s.setCharAt(to, d);
                    break;
                default:
                    s.setCharAt(at, "67-8-6513-".charAt(s.charAt(at) - '0') == '-' ? '0' : "67-8-6513-".charAt(s.charAt(at) - '0'));
            }
        }
        return Math.max(1, Integer.parseInt(s.toString()));
    }
}
