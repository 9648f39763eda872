/** Promise by promise: ordinary calls, the edges that the document names, wrong ones; answers worked out by hand. */
public final class PromisesTest {
    private static final int BAD = -1, NOT = -2, FULL = -3, STATE = -5, VOID = -2000000000;
    private static final int MIN = Integer.MIN_VALUE, MAX = Integer.MAX_VALUE;
    private static final Checks c = new Checks();

    public static void main(String[] args) {
        newObject();
        feed();
        charter();
        charterFaults();
        lost();
        ofCharter();
        form();
        forms();
        price();
        same();
        mother();
        cost();
        filled();
        days();
        listed();
        best();
        bestAlike();
        bestNone();
        claim();
        few();
        fewRules();
        from();
        pairsAndFreed();
        doubt();
        law();
        cameIn();
        slip();
        chain();
        undoAndRedo();
        keptChanges();
        digest();
        path();
        act();
        trace();
        keepAndTaken();
        rows();
        shift();
        count();
        c.end();
    }

    private static MotherTowns with(String... texts) {
        MotherTowns x = new MotherTowns();
        for (int i = 0; i < texts.length; i++) {
            c.due("charter of " + texts[i], Checks.tell(x, texts[i]), i);
        }
        return x;
    }

    // 1
    private static void newObject() {
        MotherTowns x = new MotherTowns();
        for (int what = 0; what <= 5; what++) {
            c.due("new: count(" + what + ")", x.count(what), 0);
        }
        c.due("new: ofCharter(0, 0)", x.ofCharter(0, 0), BAD);
        c.due("new: digest()", x.digest(), 209764360);
        c.due("new: cost(-1)", x.cost(-1), 0);
        c.due("new: trace(0)", x.trace(0), BAD);
        c.due("new: element(0, 0)", x.element(0, 0), Long.MIN_VALUE);
        c.due("new: undo()", x.undo(), STATE);
        c.due("new: redo()", x.redo(), STATE);
        c.due("new: unlist()", x.unlist(), 0);
        c.due("new: doubt(0)", x.doubt(0), 0);
        int[] costs = {10, 4, 6, 5, 8};
        for (int i = 0; i < 5; i++) {
            c.due("new: price(" + i + ", 0)", x.price(i, 0), costs[i]);
        }
        c.due("another: price(0, 0)", new MotherTowns().price(0, 0), 10);
    }

    // 2
    private static void feed() {
        MotherTowns x = new MotherTowns();
        for (int n : new int[] {0, 5, -1, MIN, MAX}) {
            c.due("feed(" + n + ", 49)", x.feed(n, 49), BAD);
        }
        c.due("feed(3, ..)", x.feed(3, '7' | '-' << 8 | '9' << 16 | 'x' << 24), 3);
        c.due("charter()", x.charter(), 0);
        c.due("first day", x.ofCharter(0, 0), 7);
        c.due("last day", x.ofCharter(0, 1), 9);
        for (int i = 1; i <= 29; i++) {
            c.due("feed 4", x.feed(4, -1), 4 * i);
        }
        c.due("feed to 119", x.feed(3, 0), 119);
        c.due("feed 2 at 119", x.feed(2, 0), FULL);
        c.due("still 119", x.count(1), 119);
        c.due("feed to 120", x.feed(1, 0), 120);
        c.due("feed 1 at 120", x.feed(1, 0), FULL);
        c.due("BAD ahead of FULL", x.feed(5, 0), BAD);
        c.due("120 bytes", x.count(1), 120);
    }

    // 3
    private static void charter() {
        MotherTowns x = with("1", "007-010,p3,a0,b?,o2", "999<0", "5-5<01", "12,a1<2");
        c.due("007", x.ofCharter(1, 0), 7);
        c.due("010", x.ofCharter(1, 1), 10);
        c.due("p3", x.ofCharter(1, 25), 3);
        c.due("a0", x.ofCharter(1, 10), 0);
        c.due("b?", x.ofCharter(1, 11), 9);
        c.due("c not told", x.ofCharter(1, 12), 9);
        c.due("o2", x.ofCharter(1, 24), 2);
        c.due("no mother said", x.ofCharter(1, 2), -1);
        c.due("<0", x.ofCharter(2, 2), 0);
        c.due("<01", x.ofCharter(3, 2), 1);
        c.due("one day", x.ofCharter(3, 1), 5);
        c.due("says only", x.days(4, 2), NOT);
        for (int i = 5; i < 11; i++) {
            x.lost();
        }
        c.due("<10 with ten and one", Checks.tell(x, "3<10"), 11);
        x.feed(1, '4');
        c.due("thirteenth", x.charter(), FULL);
        c.due("the tape stays", x.count(1), 1);
        MotherTowns y = new MotherTowns();
        String all = "100-200";
        for (char k = 'p'; k >= 'a'; k--) {
            all += "," + k + (k - 'a') % 4;
        }
        c.due("all sixteen", Checks.tell(y, all), 0);
        for (int k = 0; k < 16; k++) {
            c.due("clause " + k, y.ofCharter(0, 10 + k), k % 4);
        }
        c.due("a seventeenth", Checks.tell(y, all + ",a1"), -100 - all.length() - 1);
    }

    private static void charterFaults() {
        MotherTowns x = with("50", "60");
        Object[][] faults = {
            {"", 0}, {"x", 0}, {" 1", 0}, {"-1", 0}, {",a1", 0}, {"1 ", 1}, {"1234", 3}, {"0000", 3}, {"1-", 2}, {"1-x", 2},
            {"1--2", 2}, {"20-19", 3}, {"20-1", 3}, {"20-1x", 3}, {"200-1999", 4}, {"200-2011", 7}, {"20-20,", 6},
            {"1,", 2}, {"1,,", 2}, {"1,a", 3}, {"1,a4", 3}, {"1,a9", 3}, {"1,a?1", 4}, {"1,a11", 4}, {"1,q1", 2}, {"1,A1", 2},
            {"1,`1", 2}, {"1,a1,a2", 5}, {"1,a?,a?", 5}, {"1,a1,b2,a", 8}, {"1,a1, b1", 5}, {"1<", 2}, {"1<x", 2}, {"1<2", 2},
            {"1<02", 2}, {"1<11", 2}, {"1<99", 2}, {"1<0x", 3}, {"1<011", 4}, {"1<01,a1", 4}, {"1<1<1", 3}, {"1<0-2", 3},
            {"1,a1<2,b", 5}, {"1-2-3", 3}, {"1\u00e9", 1}, {"1,a\u00b9", 3}, {"9-09,a/", 6}, {"1,a:", 3}, {"1,a-", 3}};
        for (Object[] f : faults) {
            c.due("fault of '" + f[0] + "'", Checks.tell(x, (String) f[0]), -100 - (Integer) f[1]);
            c.due("the tape is empty", x.count(1), 0);
        }
        c.due("still two", x.count(0), 2);
    }

    // 4
    private static void lost() {
        MotherTowns x = with("5,a1");
        c.due("lost()", x.lost(), 1);
        c.due("first day", x.ofCharter(1, 0), 0);
        c.due("last day", x.ofCharter(1, 1), 999);
        c.due("says", x.ofCharter(1, 2), -1);
        c.due("is lost", x.ofCharter(1, 3), 1);
        c.due("not lost", x.ofCharter(0, 3), 0);
        for (int k = 0; k < 16; k++) {
            c.due("all torn", x.ofCharter(1, 10 + k), 9);
        }
        for (int i = 2; i < 12; i++) {
            c.due("lost()", x.lost(), i);
        }
        c.due("a thirteenth", x.lost(), FULL);
        c.due("twelve", x.count(0), 12);
        c.due("no change", x.count(3), 0);
    }

    // 5
    private static void ofCharter() {
        MotherTowns x = with("5-8,a1", "9<0");
        int[][] due = {{0, 0, 5}, {0, 1, 8}, {0, 2, -1}, {0, 3, 0}, {0, 10, 1}, {0, 25, 9}, {1, 2, 0}, {0, 4, BAD}, {0, 9, BAD},
            {0, 26, BAD}, {0, -1, BAD}, {2, 0, BAD}, {-1, 0, BAD}, {MAX, 10, BAD}, {MIN, 10, BAD}, {0, MAX, BAD}, {0, MIN, BAD}};
        for (int[] d : due) {
            c.due("ofCharter(" + d[0] + ", " + d[1] + ")", x.ofCharter(d[0], d[1]), d[2]);
        }
    }

    // 6
    private static void form() {
        MotherTowns x = with("5,a1", "6");
        c.due("was 1", x.form(0, 0, 3), 1);
        c.due("was 3", x.form(0, 0, 9), 3);
        c.due("was torn", x.form(0, 0, 0), 9);
        c.due("now absent", x.ofCharter(0, 10), 0);
        c.due("p", x.form(1, 15, 2), 9);
        c.due("p of it alone", x.ofCharter(0, 25), 9);
        int[][] bad = {{2, 0, 1}, {-1, 0, 1}, {0, 16, 1}, {0, -1, 1}, {0, 0, 4}, {0, 0, 8}, {0, 0, 10}, {0, 0, -1}, {MAX, MAX, MAX}};
        for (int[] b : bad) {
            c.due("form(" + b[0] + ", " + b[1] + ", " + b[2] + ")", x.form(b[0], b[1], b[2]), BAD);
        }
        c.due("four changes", x.count(3), 4);
        c.due("the same again", x.form(0, 0, 0), 0);
        c.due("is no change", x.count(3), 4);
    }

    // 7
    private static void forms() {
        MotherTowns x = with("5,a1,b1,c1");
        x.row(0, 0, 6);
        int[] row = {2, 1, 9, 3, 4, 0};
        for (int i = 0; i < row.length; i++) {
            x.put(0, i, row[i]);
        }
        c.due("ends at the 4", x.forms(0, 0, 0, 16), 4);
        int[] now = {2, 1, 9, 3, 9};
        for (int k = 0; k < now.length; k++) {
            c.due("clause " + k, x.ofCharter(0, 10 + k), now[k]);
        }
        c.due("b was 1 already", x.count(3), 3);
        c.due("from place 3", x.forms(0, 0, 3, 1), 1);
        c.due("a by place 3", x.ofCharter(0, 10), 3);
        c.due("only b .. are left", x.ofCharter(0, 11), 1);
        c.due("the row ends", x.forms(0, 0, 5, 2), 1);
        c.due("a by place 5", x.ofCharter(0, 10), 0);
        c.due("at the 4", x.forms(0, 0, 4, 2), 0);
        c.due("behind the row", x.forms(0, 0, 6, 1), 0);
        c.due("far behind", x.forms(0, 0, MAX, 16), 0);
        c.due("ahead of the row", x.forms(0, 0, -1, 16), 0);
        c.due("far ahead", x.forms(0, 0, MIN, 16), 0);
        c.due("nothing there is missing", x.forms(0, 1, 0, 1), 0);
        x.put(0, 0, 256 + 2);
        c.due("lowest bits", x.forms(0, 0, 0, 1), 1);
        c.due("2 by them", x.ofCharter(0, 10), 2);
        x.put(0, 0, 255);
        c.due("below 0", x.forms(0, 0, 0, 1), 0);
        x.row(1, 2, 3);
        c.due("ints", x.forms(0, 1, 0, 1), -12);
        x.path(0, 0);
        x.keep(2, 0);
        c.due("a path", x.forms(0, 2, 0, 1), -12);
        int[][] bad = {{1, 0, 0, 1}, {-1, 0, 0, 1}, {0, 6, 0, 1}, {0, -1, 0, 1}, {0, 0, 0, 0}, {0, 0, 0, 17}, {0, 2, 0, 0}};
        for (int[] b : bad) {
            c.due("forms BAD", x.forms(b[0], b[1], b[2], b[3]), BAD);
        }
        x.row(3, 0, 60);
        c.due("sixteen", x.forms(0, 3, 44, 16), 16);
        c.due("all absent", x.ofCharter(0, 25), 0);
    }

    // 8
    private static void price() {
        MotherTowns x = with("5,a1", "6,a2");
        x.mother(1, 0);
        c.due("was 6", x.price(2, 99), 6);
        c.due("by drop and invent no: told", x.cost(0), 99);
        c.due("was 99", x.price(2, 0), 99);
        c.due("free", x.cost(-1), 0);
        int[][] bad = {{-1, 0}, {5, 0}, {0, -1}, {0, 100}, {MAX, 0}, {0, MIN}};
        for (int[] b : bad) {
            c.due("price(" + b[0] + ", " + b[1] + ")", x.price(b[0], b[1]), BAD);
        }
        c.due("mother and two prices", x.count(3), 3);
    }

    // 9
    private static void same() {
        MotherTowns x = with("5,a1,b0,c2,d?,p3", "6,a1,b1,c?,d?,p2");
        c.due("SAME", x.same(0, 1, 0), Checks.bits(0));
        c.due("UNLIKE", x.same(0, 1, 1), Checks.bits(1, 15));
        c.due("OPEN", x.same(1, 0, 2), 65535 - Checks.bits(0, 1, 15));
        c.due("of itself", x.same(0, 0, 0), Checks.bits(0, 1, 2, 15));
        c.due("unlike itself", x.same(0, 0, 1), 0);
        x.form(1, 1, 0);
        c.due("absent in both", x.same(0, 1, 0), Checks.bits(0, 1));
        int[][] bad = {{0, 2, 0}, {2, 0, 0}, {-1, 0, 0}, {0, -1, 0}, {0, 1, 3}, {0, 1, -1}};
        for (int[] b : bad) {
            c.due("same BAD", x.same(b[0], b[1], b[2]), BAD);
        }
    }

    // 10
    private static void mother() {
        MotherTowns x = with("5", "6", "7", "8");
        c.due("none at first", x.mother(1, 0), -1);
        c.due("it was 0", x.mother(1, 2), 0);
        c.due("a ring of two", x.mother(2, 1), NOT);
        c.due("0 under 1", x.mother(0, 1), -1);
        c.due("a ring of three", x.mother(2, 0), NOT);
        c.due("3 above all", x.mother(2, 3), -1);
        c.due("a ring of four", x.mother(3, 0), NOT);
        c.due("2 none again", x.mother(2, -1), 3);
        c.due("none twice", x.mother(2, -1), -1);
        c.due("now no ring", x.mother(3, 0), -1);
        int[][] bad = {{0, 0}, {4, 0}, {0, 4}, {-1, 0}, {0, -2}, {4, 4}, {MAX, MIN}, {-1, -1}};
        for (int[] b : bad) {
            c.due("mother(" + b[0] + ", " + b[1] + ")", x.mother(b[0], b[1]), VOID);
        }
        c.due("five changes, and a sixth", x.count(3), 6);
    }

    // 11
    private static void cost() {
        MotherTowns x = with("5,a1,b0,c2,e1", "6,d1", "7,a2,b1,c0,e1");
        x.mother(1, 0);
        x.mother(2, 1);
        c.due("turn", x.cost(0), 6);
        c.due("invent", x.cost(1), 10);
        c.due("drop", x.cost(2), 4);
        c.due("one told alone", x.cost(3), 0);
        c.due("alike", x.cost(4), 0);
        c.due("all", x.cost(-1), 20);
        x.price(2, 20);
        c.due("cheaper to drop and invent", x.cost(0), 14);
        x.form(1, 0, 3);
        c.due("two turns, now told", x.cost(0), 40);
        x.mother(2, -1);
        c.due("a root costs nothing", x.cost(0), 20);
        for (int bad : new int[] {-2, 16, MAX, MIN}) {
            c.due("cost(" + bad + ")", x.cost(bad), BAD);
        }
    }

    // 12
    private static void filled() {
        MotherTowns x = with("5,a1,b1", "6", "7,a2,b1", "8,a2");
        x.mother(1, 0);
        x.mother(2, 1);
        c.due("either", x.filled(1, 0), Checks.bits(1, 2));
        c.due("between alike", x.filled(1, 1), Checks.bits(1));
        c.due("told", x.filled(0, 0), Checks.bits(1));
        c.due("a root alone", x.filled(3, 1), 15);
        c.due("nothing told at all", x.filled(1, 7), 15);
        x.price(2, 14);
        c.due("absent does it, too", x.filled(1, 0), Checks.bits(0, 1, 2));
        x.price(2, 15);
        c.due("absent alone", x.filled(1, 0), Checks.bits(0));
        x.price(2, 0);
        c.due("turns for nothing", x.filled(1, 0), Checks.bits(1, 2, 3));
        x.price(2, 6);
        x.mother(3, 1);
        c.due("two children draw it", x.filled(1, 0), Checks.bits(2));
        int[][] bad = {{4, 0}, {-1, 0}, {0, 16}, {0, -1}, {MIN, MAX}};
        for (int[] b : bad) {
            c.due("filled BAD", x.filled(b[0], b[1]), BAD);
        }
    }

    // 13
    private static void days() {
        MotherTowns x = with("100-110", "90-105", "95-103", "40-45", "0-102");
        x.mother(1, 0);
        x.mother(2, 1);
        int[][] due = {{0, 0, 100}, {0, 1, 101}, {1, 0, 101}, {1, 1, 102}, {2, 0, 102}, {2, 1, 103}, {3, 0, 40}, {3, 1, 45}};
        for (int[] d : due) {
            c.due("days(" + d[0] + ", " + d[1] + ")", x.days(d[0], d[1]), d[2]);
        }
        c.due("they agree", x.days(4, 2), NOT);
        x.mother(4, 2);
        c.due("the last is late", x.days(0, 2), 4);
        c.due("no earliest at all", x.days(3, 0), NOT);
        c.due("no latest at all", x.days(3, 1), NOT);
        x.mother(3, 4);
        c.due("the first by numbers", x.days(0, 2), 3);
        int[][] bad = {{5, 0}, {-1, 0}, {0, 3}, {0, -1}, {5, 2}};
        for (int[] b : bad) {
            c.due("days BAD", x.days(b[0], b[1]), BAD);
        }
        MotherTowns y = with("5", "5");
        y.mother(1, 0);
        c.due("like days do not agree", y.days(0, 2), 1);
    }

    // 14, 15
    private static void listed() {
        MotherTowns x = with("1", "2", "3", "4", "5", "6", "7");
        c.due("no such", x.list(7), BAD);
        c.due("no such", x.list(-1), BAD);
        for (int i = 0; i < 6; i++) {
            c.due("list(" + (6 - i) + ")", x.list(6 - i), i + 1);
        }
        c.due("a seventh", x.list(0), FULL);
        c.due("told: ahead of FULL", x.list(1), BAD);
        c.due("six", x.count(2), 6);
        c.due("unlist()", x.unlist(), 6);
        c.due("unlist() again", x.unlist(), 0);
        c.due("list anew", x.list(0), 1);
        c.due("told", x.list(0), BAD);
    }

    // 16, 17, 18
    private static void best() {
        MotherTowns x = with("100,a1,b1", "200,a1,b2<0", "300,a2,b2<0", "300,a3,b?,c0");
        c.due("none on the list", x.best(0), STATE);
        c.due("a bad one all the same", x.best(5), BAD);
        x.list(0);
        c.due("one: best(3)", x.best(3), STATE);
        c.due("one: tree", x.tree(0, 0), STATE);
        c.due("one: never", x.never(0), STATE);
        c.due("one: no such place", x.tree(0, 1), BAD);
        x.list(1);
        x.list(2);
        int[] best = {12, 1, 7, 12, 0};
        for (int what = 0; what <= 4; what++) {
            c.due("best(" + what + ")", x.best(what), best[what]);
        }
        int[] tree = {9, 0, 1};
        int[] never = {7, 6, 5};
        for (int place = 0; place < 3; place++) {
            c.due("tree(0, " + place + ")", x.tree(0, place), tree[place]);
            c.due("never(" + place + ")", x.never(place), never[place]);
        }
        int[][] bad = {{1, 0}, {-1, 0}, {0, 3}, {0, -1}, {MAX, 0}, {MIN, 0}};
        for (int[] b : bad) {
            c.due("tree BAD", x.tree(b[0], b[1]), BAD);
        }
        c.due("never(3)", x.never(3), BAD);
        c.due("never(-1)", x.never(-1), BAD);
        c.due("best(-1)", x.best(-1), BAD);
        x.list(3);
        // the fourth one is got for one turn from each of the two older ones, as its b is filled by its mother
        c.due("cost with four", x.best(0), 18);
        c.due("two trees", x.best(1), 2);
        c.due("the fourth is not sure", x.best(2), 7);
        c.due("bound: three wordings of a", x.best(3), 18);
        c.due("the first tree", x.tree(0, 3), 0);
        c.due("the second tree", x.tree(1, 3), 1);
        c.due("never of the fourth", x.never(3), 12);
        x.price(0, 1);
        c.due("bound by the least of both", x.best(3), 3);
        c.due("gap", x.best(4), 15);
        x.form(3, 1, 2);
        c.due("b told: one mother", x.best(1), 1);
        c.due("the hand's tree is no matter", x.mother(0, 3), -1);
        c.due("b told: cost", x.best(0), 18);
    }

    private static void bestAlike() {
        MotherTowns x = with("1-9,a1", "1-9,a1<0");
        x.list(0);
        x.list(1);
        int[] best = {0, 2, 0, 0, 0};
        for (int what = 0; what <= 4; what++) {
            c.due("alike: best(" + what + ")", x.best(what), best[what]);
        }
        int[][] tree = {{0, 0, 1}, {0, 1, 9}, {1, 0, 9}, {1, 1, 0}, {2, 0, BAD}};
        for (int[] t : tree) {
            c.due("alike: tree(" + t[0] + ", " + t[1] + ")", x.tree(t[0], t[1]), t[2]);
        }
        c.due("alike: never(0)", x.never(0), 1);
        c.due("alike: never(1)", x.never(1), 2);
        MotherTowns y = new MotherTowns();
        for (int i = 0; i < 6; i++) {
            y.lost();
            y.list(i);
        }
        c.due("six lost ones: all trees", y.best(1), 7776);
        c.due("the first place of the first", y.tree(0, 0), 1);
        c.due("the last tree begins with the root", y.tree(7775, 0), 9);
        c.due("and leads to the last place", y.tree(7775, 1), 5);
        c.due("no more", y.tree(7776, 0), BAD);
        c.due("none sure", y.best(2), 0);
        c.due("never only itself", y.never(5), 32);
    }

    private static void bestNone() {
        MotherTowns x = with("5,a1,b1", "5,a2,b0<0");
        x.list(1);
        x.list(0);
        int[] best = {NOT, NOT, NOT, 6, NOT};
        for (int what = 0; what <= 4; what++) {
            c.due("no days: best(" + what + ")", x.best(what), best[what]);
        }
        c.due("no days: tree", x.tree(0, 0), NOT);
        c.due("no days: never", x.never(1), NOT);
        c.due("no days: claim", x.claim(1), NOT);
        c.due("no days: bad place", x.tree(0, 2), BAD);
        c.due("no days: best(5)", x.best(5), BAD);
        c.due("no days: below 0", x.tree(-1, 0), BAD);
    }

    // 19
    private static void claim() {
        MotherTowns x = with("100,a1", "200,a1<0", "300,a2,b1<0", "150-160,a1<0", "150-160,a1<3");
        x.list(0);
        x.list(1);
        c.due("in all", x.claim(1), 2);
        c.due("not on the list", x.claim(2), BAD);
        x.list(2);
        c.due("in some", x.claim(2), 1);
        c.due("says nothing", x.claim(0), BAD);
        c.due("no such", x.claim(5), BAD);
        c.due("no such", x.claim(-1), BAD);
        c.due("its mother is not on the list", x.claim(4), BAD);
        x.form(1, 1, 1);
        x.form(0, 1, 0);
        c.due("in none", x.claim(2), 0);
    }

    // 20
    private static void few() {
        MotherTowns x = with("100,a1,b1,c1,d1", "300,a2,b2,c2,d1", "200,a2,b2,c3,d1", "250,c2");
        c.due("no tree", x.few(20), 0);
        x.mother(1, 0);
        int[] due = {18, 14, 13, 13, 13};
        for (int k = 0; k < due.length; k++) {
            c.due("few(" + k + ")", x.few(k), due[k]);
        }
        c.due("few(20)", x.few(20), 13);
        c.due("few(21)", x.few(21), BAD);
        c.due("few(-1)", x.few(-1), BAD);
        x.price(3, 6);
        c.due("single clauses without gain", x.few(2), 14);
        x.price(4, 12);
        c.due("chapters without gain", x.few(20), 18);
        x.price(3, 1);
        int[] singles = {18, 13, 8, 3, 3};
        for (int k = 0; k < singles.length; k++) {
            c.due("singles: few(" + k + ")", x.few(k), singles[k]);
        }
    }

    private static void fewRules() {
        MotherTowns x = with("100,a1,e1", "300,a2,e2", "200,a2,e2");
        x.mother(1, 0);
        c.due("a chapter each", x.few(2), 10);
        x.price(4, 3);
        c.due("one", x.few(1), 9);
        c.due("two", x.few(2), 6);
        x.mother(2, 1);
        c.due("not of one under it", x.few(20), 12);
        x.mother(2, -1);
        x.mother(1, 2);
        c.due("not of its mother, and none needed", x.few(20), 0);
        MotherTowns y = with("100,a1", "300,a2", "300,a2");
        y.mother(1, 0);
        c.due("not so late", y.few(20), 6);
        MotherTowns z = with("100,a1,b1", "300,a2", "200,a2");
        z.mother(1, 0);
        c.due("torn: b filled by the mother", z.few(0), 6);
        c.due("torn: a borrowed", z.few(1), 5);
        // the torn one between may be 1 or 2
        MotherTowns w = with("100,a2", "150", "200,a1");
        w.mother(1, 0);
        w.mother(2, 1);
        c.due("the least filling", w.few(0), 6);
        MotherTowns v = with("100,a0", "150", "200", "300,a2");
        v.mother(1, 0);
        v.mother(2, 1);
        v.mother(3, 2);
        v.price(0, 0);
        c.due("invented for nothing", v.few(0), 0);
    }

    // 21
    private static void from() {
        MotherTowns x = with("100,a1,b0", "300,a2,b1,c1", "350,a2", "299,a2,b1", "200,a2");
        c.due("a root", x.from(1, 0), NOT);
        x.mother(1, 0);
        c.due("the least that is old enough", x.from(1, 0), 3);
        c.due("of b", x.from(1, 1), 3);
        c.due("no gain: alike", x.from(1, 2), NOT);
        x.form(3, 0, 1);
        c.due("the next", x.from(1, 0), 4);
        x.price(3, 6);
        c.due("as dear as the turn", x.from(1, 0), NOT);
        c.due("an invented one is dearer", x.from(1, 1), 3);
        x.mother(3, 1);
        c.due("under it", x.from(1, 1), NOT);
        int[][] bad = {{5, 0}, {-1, 0}, {0, 16}, {0, -1}};
        for (int[] b : bad) {
            c.due("from BAD", x.from(b[0], b[1]), BAD);
        }
        MotherTowns y = with("1,a1", "5,a0", "2,a0");
        y.mother(1, 0);
        y.price(3, 3);
        c.due("an absent one, too", y.from(1, 0), 2);
    }

    // 22, 23
    private static void pairsAndFreed() {
        MotherTowns x = with("1,a0,b0,c0", "1,a1,b0,c1", "1,a0,b2,c1", "1,a3,b?,c0");
        c.due("one", x.pairs(-1), 1);
        c.due("a and c", x.pairs(0), 2);
        c.due("freed of a", x.freed(), 1);
        Checks.tell(x, "1,a2,b1");
        c.due("a and b, too", x.pairs(-1), 2);
        c.due("the first pair", x.pairs(0), 1);
        c.due("the second pair", x.pairs(1), 2);
        c.due("no third", x.pairs(2), BAD);
        c.due("below", x.pairs(-2), BAD);
        c.due("far", x.pairs(MAX), BAD);
        c.due("a alone", x.freed(), 1);
        x.form(1, 0, 9);
        c.due("torn shows nothing", x.pairs(-1), 0);
        c.due("nothing to free", x.freed(), 0);
        MotherTowns y = with("1,o0,p0,n0", "1,o1,p0,n0", "1,o0,p1,n1", "1,o1,p1,n1");
        c.due("o clashes with n and p", y.pairs(-1), 2);
        c.due("n and o", y.pairs(0), 16 * 13 + 14);
        c.due("o and p", y.pairs(1), 16 * 14 + 15);
        c.due("o alone", y.freed(), 1 << 14);
        c.due("new: none", new MotherTowns().freed(), 0);
    }

    // 24
    private static void doubt() {
        MotherTowns x = with("10", "5<0", "20<0", "15-30<2");
        c.due("one", x.doubt(0), 1);
        c.due("that of 1", x.doubt(1), 2);
        c.due("doubt(2)", x.doubt(2), BAD);
        c.due("doubt(-1)", x.doubt(-1), BAD);
        MotherTowns y = with("10", "5-11<0", "11<1");
        c.due("either of two: one", y.doubt(0), 1);
        c.due("the least bits", y.doubt(1), 2);
        y.mother(0, 2);
        c.due("the hand's tree is no matter", y.doubt(1), 2);
        MotherTowns z = with("10", "10<0", "10<0", "10<2", "11<3");
        c.due("three must go", z.doubt(0), 3);
        c.due("those of 1, 2, 3", z.doubt(1), Checks.bits(1, 2, 3));
    }

    // 25
    private static void law() {
        MotherTowns x = with("1,a1,b1", "2,a2,b0", "3,a2");
        x.mother(1, 0);
        x.mother(2, 0);
        c.due("by its daughters", x.law(0, 0), Checks.bits(2));
        c.due("by its mother", x.law(1, 0), Checks.bits(1));
        c.due("by one daughter that is told", x.law(0, 1), Checks.bits(0));
        c.due("of nothing told", x.law(2, 2), 15);
        c.due("told it is itself", x.filled(0, 0), Checks.bits(1));
        c.due("nothing is burnt", x.ofCharter(0, 10), 1);
        int[][] bad = {{3, 0}, {-1, 0}, {0, 16}, {0, -1}};
        for (int[] b : bad) {
            c.due("law BAD", x.law(b[0], b[1]), BAD);
        }
    }

    // 26
    private static void cameIn() {
        MotherTowns x = with("1,a1,b0", "2,a1,b1", "3", "4,a2,b1", "5,a1,b1");
        for (int i = 1; i < 5; i++) {
            x.mother(i, i - 1);
        }
        c.due("torn, filled like its mother", x.cameIn(2, 0), 0);
        c.due("its own", x.cameIn(3, 0), 3);
        c.due("a break between", x.cameIn(4, 0), 4);
        c.due("absent", x.cameIn(0, 1), NOT);
        c.due("through one that is torn", x.cameIn(4, 1), 1);
        c.due("filled as absent", x.cameIn(1, 5), NOT);
        int[][] bad = {{5, 0}, {-1, 0}, {0, 16}, {0, -1}};
        for (int[] b : bad) {
            c.due("cameIn BAD", x.cameIn(b[0], b[1]), BAD);
        }
    }

    // 27
    private static void slip() {
        MotherTowns x = new MotherTowns();
        int[][] due = {{7, 7, 0}, {1234, 124, 1}, {1234, 234, 1}, {1234, 123, 1}, {11, 1, 1}, {11, 111, 2}, {105, 1055, 2},
            {105, 5, NOT}, {100, 1, NOT}, {100, 10, 1}, {105, 15, 1}, {12, 21, 3}, {10, 1, 1}, {10203, 1023, 1}, {10203, 12003, 3},
            {99999, 9999, 1}, {9999, 99999, 2}, {1, 7, 4}, {7, 1, 4}, {3, 8, 4}, {8, 3, 4}, {5, 6, 4}, {6, 5, 4}, {10, 16, 4},
            {16, 10, 4}, {61, 1, 1}, {61, 51, 4}, {5, 1, NOT}, {5, 8, NOT}, {12, 13, NOT}, {1, 111, NOT}, {123, 321, NOT},
            {0, 1, BAD}, {1, 0, BAD}, {100000, 1, BAD}, {1, 100000, BAD}, {-7, 7, BAD}, {MIN, MAX, BAD}, {0, 0, BAD}};
        for (int[] d : due) {
            c.due("slip(" + d[0] + ", " + d[1] + ")", x.slip(d[0], d[1]), d[2]);
        }
    }

    // 28
    private static void chain() {
        MotherTowns x = new MotherTowns();
        int[][] due = {{42, 42, 0}, {12, 21, 1}, {12, 211, 2}, {12, 2211, 3}, {12, 22111, NOT}, {12345, 45, 3}, {12345, 5, NOT},
            {1, 1111, 3}, {1, 11111, NOT}, {99999, 99, 3}, {99999, 9, NOT}, {5, 8, NOT}, {6, 8, NOT}, {105, 5, 2}, {60, 6, 1},
            {0, 1, BAD}, {1, 0, BAD}, {100000, 1, BAD}, {1, -1, BAD}, {MAX, MAX, BAD}};
        for (int[] d : due) {
            c.due("chain(" + d[0] + ", " + d[1] + ")", x.chain(d[0], d[1]), d[2]);
        }
    }

    // 29, 30
    private static void undoAndRedo() {
        MotherTowns x = with("1,a1", "2");
        x.form(0, 0, 2);
        x.price(1, 50);
        x.mother(1, 0);
        c.due("none undone yet", x.redo(), STATE);
        c.due("the mother", x.undo(), 2);
        c.due("it had none", x.mother(1, -1), -1);
        c.due("no change: may still be done again", x.redo(), 0);
        c.due("it has one", x.mother(0, 1), NOT);
        x.undo();
        c.due("the price", x.undo(), 1);
        c.due("the form", x.undo(), 0);
        c.due("no more", x.undo(), STATE);
        c.due("1 again", x.ofCharter(0, 10), 1);
        c.due("the form again", x.redo(), 2);
        c.due("2 again", x.ofCharter(0, 10), 2);
        x.lost();
        c.due("a charter is no change", x.redo(), 1);
        c.due("another change", x.price(1, 7), 50);
        c.due("came behind", x.redo(), STATE);
        c.due("three may be undone", x.count(3), 3);
        x.undo();
        c.due("50 again", x.price(1, 50), 50);
        c.due("7 once more", x.redo(), 0);
        c.due("7", x.price(1, 7), 7);
    }

    private static void keptChanges() {
        MotherTowns x = with("1,a1");
        for (int i = 0; i < 45; i++) {
            x.price(0, 20 + i);
        }
        c.due("forty are kept", x.count(3), 40);
        for (int left = 39; left >= 0; left--) {
            c.due("undo()", x.undo(), left);
        }
        c.due("no more", x.undo(), STATE);
        c.due("the five first stay", x.price(0, 24), 24);
        for (int left = 39; left >= 0; left--) {
            c.due("redo()", x.redo(), left);
        }
        c.due("the last again", x.price(0, 64), 64);
        c.due("none to do", x.redo(), STATE);
    }

    // 31
    private static void digest() {
        MotherTowns x = with("1,a1,p2", "2");
        x.mother(1, 0);
        int v = 7;
        int[] forms = {1, 9, 9, 9, 9, 9, 9, 9, 9, 9, 9, 9, 9, 9, 9, 2};
        v = v * 31;
        for (int f : forms) {
            v = v * 31 + f;
        }
        v = v * 31 + 1;
        for (int k = 0; k < 16; k++) {
            v = v * 31 + 9;
        }
        for (int cost : new int[] {10, 4, 6, 5, 8}) {
            v = v * 31 + cost;
        }
        c.due("digest()", x.digest(), v);
        x.price(4, 9);
        c.due("the last cost", x.digest(), v + 1);
        x.undo();
        c.due("undone", x.digest(), v);
    }

    // 32
    private static void path() {
        MotherTowns x = with("1");
        int[][] bad = {{-1, 0}, {7, 0}, {0, 1}, {0, -1}, {MAX, MIN}};
        for (int[] b : bad) {
            c.due("path BAD", x.path(b[0], b[1]), BAD);
        }
        for (int i = 0; i < 100; i++) {
            c.due("path", x.path(i % 7, 0), i);
        }
        c.due("path 100", x.path(0, 0), FULL);
        c.due("BAD ahead of FULL", x.path(7, 0), BAD);
        c.due("a hundred", x.count(4), 100);
        c.due("the last acts", x.act(99, 0, 1), 100);
    }

    // 33: n 4 and c 2 throughout
    private static void act() {
        int[][] due = {
            {0, 7, 14, 7, 9}, {1, 7, 16, 7, 11}, {2, 7, 14, 21, -1}, {3, 6, 14, 7, 12}, {4, 7, 14, -7, 19}, {5, 8, 16, 0, 14},
            {6, 7, 10, 7, 5}};
        for (int[] d : due) {
            MotherTowns x = with("1", "2", "3");
            for (int i = 0; i < 4; i++) {
                x.path(0, 0);
            }
            x.path(d[0], 2);
            for (int act = 0; act < 4; act++) {
                c.due("kind " + d[0] + ": act(4, " + act + ", 3)", x.act(4, act, 3), d[1 + act]);
            }
            c.due("it wraps", x.act(4, 0, MAX), d[0] == 3 ? MIN + 2 : d[0] == 5 ? MIN + 4 : MIN + 3);
        }
        MotherTowns y = with("1");
        y.path(3, 0);
        c.due("tells", y.act(0, 3, 1), -1 ^ 5);
        int[][] none = {{1, 0}, {-1, 0}, {0, 4}, {0, -1}, {MAX, MIN}};
        for (int[] n : none) {
            y.act(0, 0, 1);
            c.due("no such", y.act(n[0], n[1], 9), 0);
            c.due("no trace", y.trace(0), BAD);
            c.due("no bodies", y.count(5), 0);
        }
    }

    // 34
    private static void trace() {
        int[][][] due = {
            {{1}, {10, 1}, {11}, {2, 10, 1, 11}},
            {{1}, {20, 10, 1}, {11}, {2, 20, 10, 1, 11}},
            {{1}, {10, 1}, {30, 11}, {2, 10, 1, 30, 11}},
            {{40, 1}, {20, 10, 40, 1}, {11}, {41, 2, 20, 10, 40, 1, 11}},
            {{1}, {10, 1}, {50, 11}, {2, 10, 1, 50, 11}},
            {{60, 1}, {10, 60, 1}, {61, 50, 11, 60, 1}, {2, 10, 60, 1, 61, 50, 11, 60, 1}},
            {{1}, {70, 20, 10, 1, 11}, {11}, {2, 70, 20, 10, 1, 11, 11}}};
        MotherTowns x = with("1");
        for (int kind = 0; kind < 7; kind++) {
            x.path(kind, 0);
            for (int act = 0; act < 4; act++) {
                x.act(kind, act, 8);
                int[] bodies = due[kind][act];
                for (int i = 0; i < bodies.length; i++) {
                    c.due("kind " + kind + " act " + act + ": trace(" + i + ")", x.trace(i), bodies[i]);
                }
                c.due("behind the last", x.trace(bodies.length), BAD);
                c.due("bodies", x.count(5), bodies.length);
                c.due("below", x.trace(-1), BAD);
            }
        }
        c.due("far", x.trace(MAX), BAD);
        c.due("24", x.trace(24), BAD);
    }

    // 35, 40
    private static void keepAndTaken() {
        MotherTowns x = with("1");
        for (int kind = 0; kind < 7; kind++) {
            x.path(kind, 0);
        }
        int[] above = {-1, 0, 0, 1, 0, 4, 1};
        for (int kind = 0; kind < 7; kind++) {
            c.due("keep", x.keep(5, kind), 1);
            for (int k = 0; k < 7; k++) {
                boolean is = k == kind || k == above[kind] || k == 0;
                c.due("kind " + kind + " taken for " + k, x.taken(5, k), is ? kind : -12);
            }
        }
        c.due("nothing", x.keep(5, -1), 1);
        c.due("nothing there", x.taken(5, 0), -11);
        x.row(5, 3, 1);
        c.due("a row is no path", x.taken(5, 0), -12);
        int[][] bad = {{6, 0}, {-1, 0}, {0, 7}, {0, -2}, {MAX, 0}};
        for (int[] b : bad) {
            c.due("keep BAD", x.keep(b[0], b[1]), BAD);
        }
        c.due("the row stays", x.put(5, 0, 1), 1);
        int[][] none = {{6, 0}, {-1, 0}, {5, 7}, {5, -1}, {0, 7}};
        for (int[] b : none) {
            c.due("taken BAD", x.taken(b[0], b[1]), BAD);
        }
    }

    // 36, 37, 38
    private static void rows() {
        MotherTowns x = with("1");
        c.due("nothing there", x.put(0, 0, 1), -11);
        c.due("nothing there", x.element(0, 0), Long.MIN_VALUE);
        long[][] due = {{0, 300, 44}, {0, 200, -56}, {1, 65537, 1}, {1, 40000, -25536}, {2, 1L << 32 | 5, 5}, {2, 1L << 31, MIN},
            {3, Long.MAX_VALUE, Long.MAX_VALUE}, {4, 256, 1}, {4, 0, 0}, {4, Long.MIN_VALUE, 1}, {3, -1, -1}};
        for (long[] d : due) {
            c.due("row", x.row(0, (int) d[0], 60), 1);
            c.due("0 at first", x.element(0, 59), 0);
            c.due("put", x.put(0, 59, d[1]), 1);
            c.due("sort " + d[0] + " keeps of " + d[1], x.element(0, 59), d[2]);
            c.due("its neighbour", x.element(0, 58), 0);
        }
        c.due("behind", x.put(0, 60, 1), -13);
        c.due("ahead", x.put(0, -1, 1), -13);
        c.due("behind", x.element(0, 60), Long.MIN_VALUE);
        c.due("far ahead", x.element(0, MIN), Long.MIN_VALUE);
        c.due("an empty row", x.row(1, 0, 0), 1);
        c.due("has no place", x.put(1, 0, 1), -13);
        x.path(0, 0);
        x.keep(2, 0);
        c.due("a path", x.put(2, 0, 1), -12);
        c.due("a path", x.element(2, 0), Long.MIN_VALUE);
        int[][] bad = {{6, 0, 1}, {-1, 0, 1}, {0, 5, 1}, {0, -1, 1}, {0, 0, 61}, {0, 5, -1}, {6, 0, -1}, {0, 0, MAX}};
        for (int[] b : bad) {
            c.due("row BAD", x.row(b[0], b[1], b[2]), BAD);
        }
        c.due("below 0", x.row(0, 4, -1), -14);
        c.due("far below 0", x.row(0, 0, MIN), -14);
        c.due("what was there stays", x.element(0, 59), -1);
        c.due("no such shelf", x.put(6, 0, 1), BAD);
        c.due("no such shelf", x.put(-1, 0, 1), BAD);
        c.due("no such shelf", x.element(6, 0), Long.MIN_VALUE);
        c.due("row over row", x.row(0, 3, 60), 1);
        c.due("0 again", x.element(0, 59), 0);
    }

    // 39
    private static void shift() {
        MotherTowns x = with("1");
        c.due("nothing in either", x.shift(0, 0, 1, 0, 1), -11);
        x.row(0, 2, 5);
        c.due("nothing in the other", x.shift(0, 0, 1, 0, 1), -11);
        c.due("nothing in the one", x.shift(1, 0, 0, 0, 1), -11);
        x.path(0, 0);
        x.keep(2, 0);
        c.due("nothing, ahead of a path", x.shift(2, 0, 1, 0, 1), -11);
        c.due("a path", x.shift(2, 0, 0, 0, 1), -12);
        c.due("to a path", x.shift(0, 0, 2, 0, -1), -12);
        x.row(1, 1, 5);
        c.due("unlike sorts", x.shift(0, 9, 1, 9, -1), -12);
        x.row(1, 2, 4);
        for (int i = 0; i < 5; i++) {
            x.put(0, i, i + 1);
        }
        c.due("three", x.shift(0, 2, 1, 1, 3), 3);
        long[] one = {0, 3, 4, 5};
        for (int i = 0; i < 4; i++) {
            c.due("came", x.element(1, i), one[i]);
        }
        c.due("along itself", x.shift(0, 0, 0, 1, 4), 4);
        long[] zero = {1, 1, 2, 3, 4};
        for (int i = 0; i < 5; i++) {
            c.due("as they were before", x.element(0, i), zero[i]);
        }
        c.due("back along itself", x.shift(0, 2, 0, 0, 3), 3);
        c.due("as they were before", x.element(0, 2), 4);
        c.due("none at the end", x.shift(0, 5, 1, 4, 0), 0);
        int[][] off = {{6, 0, 0}, {0, 5, 0}, {-1, 0, 1}, {0, -1, 1}, {0, 0, -1}, {3, 0, 3}, {0, 2, 3}, {MAX, 0, 1}, {1, 0, MAX},
            {0, 1, MAX}, {MIN, MIN, MIN}};
        for (int[] o : off) {
            c.due("shift off", x.shift(0, o[0], 1, o[1], o[2]), -13);
        }
        c.due("no such shelf", x.shift(6, 0, 1, 0, 1), BAD);
        c.due("no such shelf", x.shift(3, 0, -1, 0, 1), BAD);
    }

    // 41
    private static void count() {
        MotherTowns x = with("1", "2", "3");
        x.feed(2, 0);
        x.list(2);
        x.mother(1, 0);
        x.mother(2, 0);
        x.form(0, 0, 1);
        x.undo();
        for (int i = 0; i < 5; i++) {
            x.path(5, 0);
        }
        x.act(0, 3, 1);
        int[] due = {3, 2, 1, 2, 5, 9};
        for (int what = 0; what <= 5; what++) {
            c.due("count(" + what + ")", x.count(what), due[what]);
        }
        for (int bad : new int[] {-1, 6, MAX, MIN}) {
            c.due("count(" + bad + ")", x.count(bad), BAD);
        }
    }
}
