import java.util.ArrayList;
import java.util.List;

/** Promises 10 to 19 at their boundaries: just within, at, just beyond; each run on a new object (see Runs). */
public final class BoundaryTreesTest {
    private static final Runs r = new Runs();

    public static void main(String[] args) {
        promise10();
        promise10Rings();
        promise11();
        promise11Torn();
        promise12();
        promise13();
        promise13Late();
        promise14And15();
        promise16States();
        promise16Trees();
        promise16Bound();
        promise17();
        promise18();
        promise19();
        r.end();
    }

    private static List<String> rows(String... some) {
        return new ArrayList<>(List.of(some));
    }

    private static void promise10() {
        r.run("10: none at first", "'5' = 0", "'6<0' = 1", "lost() = 2", "mother(0, -1) = -1", "mother(1, -1) = -1",
            "mother(2, -1) = -1", "count(3) = 0");
        r.run("10: the first charter and the last", "2 x lost()", "mother(-1, 0) = VOID", "mother(0, 1) = -1", "mother(2, 0) = VOID",
            "mother(2, -1) = VOID", "mother(MIN, 0) = VOID", "mother(MAX, 0) = VOID", "mother(0, -1) = 1", "mother(1, 0) = -1",
            "count(3) = 3");
        r.run("10: the mother's number", "2 x lost()", "mother(0, -2) = VOID", "mother(0, -1) = -1", "mother(0, 1) = -1",
            "mother(0, 2) = VOID", "mother(0, MIN) = VOID", "mother(0, MAX) = VOID", "mother(0, 1) = 1");
        r.run("10: of twelve", "12 x lost()", "mother(11, 12) = VOID", "mother(12, 11) = VOID", "mother(11, 10) = -1",
            "mother(0, 11) = -1", "mother(10, 11) = NOT");
        r.run("10: itself", "2 x lost()", "mother(0, 0) = VOID", "mother(1, 1) = VOID", "mother(1, 0) = -1", "mother(1, 1) = VOID",
            "mother(0, 0) = VOID", "mother(2, 2) = VOID", "mother(-1, -1) = VOID", "count(3) = 1");
        r.run("10: who it was", "3 x lost()", "mother(2, 0) = -1", "mother(2, 1) = 0", "mother(2, -1) = 1", "mother(2, -1) = -1");
        r.run("10: to whom it is: no change", "2 x lost()", "mother(1, 0) = -1", "mother(1, 0) = 0", "mother(0, -1) = -1",
            "count(3) = 1");
    }

    private static void promise10Rings() {
        r.run("10: a ring of two", "2 x lost()", "mother(1, 0) = -1", "mother(0, 1) = NOT", "mother(0, -1) = -1",
            "mother(1, -1) = 0", "mother(0, 1) = -1", "mother(1, 0) = NOT");
        r.run("10: a ring of three", "3 x lost()", "mother(1, 0) = -1", "mother(2, 1) = -1", "mother(0, 2) = NOT",
            "mother(0, 1) = NOT", "mother(2, 0) = 1", "mother(1, 2) = 0");
        List<String> twelve = rows("12 x lost()");
        for (int i = 1; i < 12; i++) {
            twelve.add("mother(" + i + ", " + (i - 1) + ") = -1");
        }
        twelve.addAll(List.of("mother(0, 11) = NOT", "mother(0, 6) = NOT", "mother(10, 11) = NOT", "mother(6, -1) = 5",
            "mother(0, 5) = NOT", "mother(0, 11) = -1", "mother(6, 5) = NOT", "mother(11, -1) = 10", "mother(6, 5) = -1"));
        r.run("10: a ring of twelve, and the chain of twelve ahead of it", twelve);
        r.run("10: two under one are no ring", "3 x lost()", "mother(1, 0) = -1", "mother(2, 0) = -1", "mother(1, 2) = 0",
            "mother(2, 1) = NOT");
    }

    private static void promise11() {
        r.run("11: clause", "'5,a1,p1' = 0", "'6,a2,p0' = 1", "mother(1, 0) = -1", "cost(-2) = BAD", "cost(-1) = 10", "cost(0) = 6",
            "cost(1) = 0", "cost(14) = 0", "cost(15) = 4", "cost(16) = BAD", "cost(MIN) = BAD", "cost(MAX) = BAD");
        r.run("11: no charters", "cost(-2) = BAD", "cost(-1) = 0", "cost(0) = 0", "cost(15) = 0", "cost(16) = BAD");
        for (int f = 0; f < 4; f++) {
            for (int g = 0; g < 4; g++) {
                int due = f == g ? 0 : f == 0 ? 10 : g == 0 ? 4 : 6;
                r.run("11: from " + f + " to " + g, "'5,c" + f + "' = 0", "'6,c" + g + "' = 1", "cost(2) = 0", "mother(1, 0) = -1",
                    "cost(2) = " + due, "cost(-1) = " + due, "mother(1, -1) = 0", "cost(2) = 0");
            }
        }
        r.run("11: costs of 0 and 99", "'5,a0,b1,c1' = 0", "'6,a1,b0,c2' = 1", "mother(1, 0) = -1", "price(0, 0) = 10",
            "cost(0) = 0", "price(0, 99) = 0", "cost(0) = 99", "price(1, 0) = 4", "cost(1) = 0", "price(1, 99) = 0", "cost(1) = 99",
            "price(2, 0) = 6", "cost(2) = 0", "price(2, 99) = 0", "cost(2) = 99", "cost(-1) = 297");
        List<String> dearest = rows();
        for (int i = 0; i < 12; i++) {
            StringBuilder text = new StringBuilder("5");
            for (char k = 'a'; k <= 'p'; k++) {
                text.append(',').append(k).append(i % 2);
            }
            dearest.add("'" + text + "' = " + i);
            if (i > 0) {
                dearest.add("mother(" + i + ", " + (i - 1) + ") = -1");
            }
        }
        dearest.addAll(List.of("price(0, 99) = 10", "price(1, 99) = 4", "cost(15) = 1089", "cost(-1) = 17424"));
        r.run("11: the dearest tree of all: 11 * 16 * 99", dearest);
    }

    private static void promise11Torn() {
        r.run("11: what is torn costs nothing alone", "'5,a1' = 0", "'6' = 1", "'7,a2' = 2", "mother(1, 0) = -1", "cost(0) = 0",
            "mother(1, -1) = 0", "mother(2, 1) = -1", "cost(0) = 0", "mother(1, 0) = -1", "cost(0) = 6");
        r.run("11: by a turn, or dropped and invented", "'5,a1' = 0", "'6' = 1", "'7,a2' = 2", "mother(1, 0) = -1",
            "mother(2, 1) = -1", "price(2, 13) = 6", "cost(0) = 13", "price(2, 14) = 13", "cost(0) = 14", "price(2, 15) = 14",
            "cost(0) = 14", "price(2, 0) = 15", "cost(0) = 0");
        r.run("11: not if it is told", "'5,a1' = 0", "'6,a1' = 1", "'7,a2' = 2", "mother(1, 0) = -1", "mother(2, 1) = -1",
            "price(2, 15) = 6", "cost(0) = 15", "form(1, 0, 9) = 1", "cost(0) = 14");
        r.run("11: torn above many", "lost() = 0", "'6,a0' = 1", "'6,a0' = 2", "'6,a1' = 3", "'6,a0' = 4", "mother(1, 0) = -1",
            "mother(2, 0) = -1", "mother(3, 0) = -1", "cost(0) = 8", "mother(4, 0) = -1", "cost(0) = 10");
        r.run("11: two trees", "'5,a1' = 0", "'6,a2' = 1", "'5,a1' = 2", "'6,a0' = 3", "mother(1, 0) = -1", "mother(3, 2) = -1",
            "cost(0) = 10");
    }

    private static void promise12() {
        r.run("12: one that is told: that alone", "'5,a0,b1,c2,d3' = 0", "filled(0, 0) = 1", "filled(0, 1) = 2", "filled(0, 2) = 4",
            "filled(0, 3) = 8", "filled(0, 4) = 15");
        r.run("12: told between unlike ones", "'5,a1' = 0", "'6,a0' = 1", "'7,a1' = 2", "mother(1, 0) = -1", "mother(2, 1) = -1",
            "filled(1, 0) = 1", "form(1, 0, 9) = 0", "filled(1, 0) = 2");
        r.run("12: clause and charter", "'5,a1,p2' = 0", "lost() = 1", "filled(0, -1) = BAD", "filled(0, 0) = 2", "filled(0, 15) = 4",
            "filled(0, 16) = BAD", "filled(-1, 0) = BAD", "filled(1, 0) = 15", "filled(2, 0) = BAD", "filled(MIN, 0) = BAD",
            "filled(MAX, 0) = BAD", "filled(0, MIN) = BAD", "filled(0, MAX) = BAD");
        r.run("12: between two wordings", "'5,a1' = 0", "'6' = 1", "'7,a2' = 2", "mother(1, 0) = -1", "mother(2, 1) = -1",
            "filled(1, 0) = 6", "price(2, 13) = 6", "filled(1, 0) = 6", "price(2, 14) = 13", "filled(1, 0) = 7", "price(2, 15) = 14",
            "filled(1, 0) = 1", "price(2, 0) = 15", "filled(1, 0) = 14", "price(0, 0) = 10", "price(1, 0) = 4", "filled(1, 0) = 15");
        r.run("12: at the end of a path", "'5,a1' = 0", "'6' = 1", "mother(1, 0) = -1", "filled(1, 0) = 2", "price(1, 1) = 4",
            "filled(1, 0) = 2", "price(1, 0) = 1", "filled(1, 0) = 3", "price(2, 0) = 6", "filled(1, 0) = 15");
        r.run("12: a root", "'5' = 0", "'6,a1' = 1", "mother(1, 0) = -1", "filled(0, 0) = 2", "price(0, 1) = 10", "filled(0, 0) = 2",
            "price(0, 0) = 1", "filled(0, 0) = 3", "price(2, 0) = 6", "filled(0, 0) = 15");
        r.run("12: a torn MOTHER with another child", "'5' = 0", "'6,a1' = 1", "'6' = 2", "'7,a2' = 3", "mother(1, 0) = -1",
            "mother(2, 0) = -1", "mother(3, 2) = -1", "filled(0, 0) = 6", "filled(2, 0) = 6", "form(1, 0, 0) = 1", "filled(0, 0) = 4",
            "filled(2, 0) = 4", "price(1, 10) = 4", "filled(0, 0) = 5", "filled(2, 0) = 5");
        r.run("12: filled anew behind each change of MOTHER", "'5' = 0", "'4,a1' = 1", "'6,a2' = 2", "mother(0, 1) = -1",
            "filled(0, 0) = 2", "mother(2, 0) = -1", "filled(0, 0) = 6", "mother(0, -1) = 1", "filled(0, 0) = 4", "mother(2, -1) = 0",
            "filled(0, 0) = 15", "4 x undo()", "filled(0, 0) = 15", "redo() = 3", "filled(0, 0) = 2");
        r.run("12: of twelve", "12 x lost()", "filled(11, 15) = 15", "filled(12, 15) = BAD");
    }

    private static void promise13() {
        r.run("13: what", "'5-8' = 0", "days(0, -1) = BAD", "days(0, 0) = 5", "days(0, 1) = 8", "days(0, 2) = NOT", "days(0, 3) = BAD",
            "days(0, MIN) = BAD", "days(0, MAX) = BAD");
        r.run("13: the first charter and the last", "2 x lost()", "days(-1, 0) = BAD", "days(0, 0) = 0", "days(1, 1) = 999",
            "days(2, 0) = BAD", "days(-1, 2) = BAD", "days(2, 2) = BAD", "days(MIN, 1) = BAD", "days(MAX, 1) = BAD");
        r.run("13: like days do not agree", "'5' = 0", "'5' = 1", "mother(1, 0) = -1", "days(0, 2) = 1", "days(1, 2) = 1",
            "days(0, 0) = NOT", "days(0, 1) = NOT", "days(1, 0) = NOT", "days(1, 1) = NOT");
        r.run("13: one day more does", "'5' = 0", "'5-6' = 1", "mother(1, 0) = -1", "days(0, 2) = NOT", "days(0, 0) = 5",
            "days(0, 1) = 5", "days(1, 0) = 6", "days(1, 1) = 6");
        r.run("13: the mother's first day counts", "'5-6' = 0", "'6' = 1", "mother(1, 0) = -1", "days(0, 2) = NOT", "days(0, 1) = 5",
            "days(1, 0) = 6");
        r.run("13: the mother's first day counts, one less", "'5-6' = 0", "'5' = 1", "mother(1, 0) = -1", "days(0, 2) = 1");
        r.run("13: along two paths", "'5-9' = 0", "'5-6' = 1", "'5-7' = 2", "mother(1, 0) = -1", "mother(2, 1) = -1",
            "days(0, 2) = NOT", "days(2, 0) = 7", "days(1, 0) = 6", "days(0, 0) = 5", "days(2, 1) = 7", "days(1, 1) = 6",
            "days(0, 1) = 5");
        r.run("13: along two paths, one day too few", "'5-9' = 0", "'5-6' = 1", "'5-6' = 2", "mother(1, 0) = -1", "mother(2, 1) = -1",
            "days(0, 2) = 2", "mother(2, 0) = 1", "days(0, 2) = NOT", "days(2, 0) = 6");
        r.run("13: EARLIEST: its own first day, or one more than the mother's", "'5' = 0", "'6-20' = 1", "'7-20' = 2", "'5-20' = 3",
            "mother(1, 0) = -1", "mother(2, 0) = -1", "mother(3, 0) = -1", "days(1, 0) = 6", "days(2, 0) = 7", "days(3, 0) = 6");
        r.run("13: LATEST: its own last day, or one less than the first child's", "'5-20' = 0", "'5-12' = 1", "'9-30' = 2",
            "days(0, 1) = 20", "mother(2, 0) = -1", "days(0, 1) = 20", "mother(1, 0) = -1", "days(0, 1) = 11", "days(1, 1) = 12",
            "days(2, 1) = 30", "days(2, 0) = 9");
        r.run("13: LATEST: a child's last day one behind", "'5-20' = 0", "'5-21' = 1", "mother(1, 0) = -1", "days(0, 1) = 20");
        List<String> twelve = rows("12 x lost()");
        for (int i = 1; i < 12; i++) {
            twelve.add("mother(" + i + ", " + (i - 1) + ") = -1");
        }
        for (int i = 0; i < 12; i++) {
            twelve.add("days(" + i + ", 0) = " + i);
            twelve.add("days(" + i + ", 1) = " + (988 + i));
        }
        r.run("13: a chain of twelve LOST ones", twelve);
        r.run("13: no day is behind 999", "'999' = 0", "lost() = 1", "mother(1, 0) = -1", "days(1, 2) = 1");
        r.run("13: day 999", "'998' = 0", "lost() = 1", "mother(1, 0) = -1", "days(1, 2) = NOT", "days(1, 0) = 999");
        r.run("13: day 0 has none ahead", "'0' = 0", "lost() = 1", "mother(0, 1) = -1", "days(1, 2) = 0");
        r.run("13: day 1 has", "'1' = 0", "lost() = 1", "mother(0, 1) = -1", "days(1, 2) = NOT", "days(1, 1) = 0", "days(1, 0) = 0");
    }

    private static void promise13Late() {
        r.run("13: the first by numbers, not along the path", "'5' = 0", "'5' = 1", "'5' = 2", "mother(2, 0) = -1",
            "days(0, 2) = 2", "mother(1, 2) = -1", "days(0, 2) = 1");
        r.run("13: the first by numbers, charter 0", "'5' = 0", "'5' = 1", "'5' = 2", "mother(2, 1) = -1", "mother(0, 2) = -1",
            "days(2, 2) = 0", "days(0, 0) = NOT", "days(0, 1) = NOT", "days(1, 0) = NOT", "days(1, 1) = NOT");
        r.run("13: the first by numbers of two sisters", "'5' = 0", "'5' = 1", "'5' = 2", "mother(0, 2) = -1", "days(0, 2) = 0",
            "days(1, 1) = NOT", "mother(1, 2) = -1", "days(0, 2) = 0", "mother(0, -1) = 2", "days(0, 2) = 1");
        r.run("13: behind a late one a child that is late by it", "'5' = 0", "'5' = 1", "'5-6' = 2", "'5-7' = 3",
            "mother(1, 3) = -1", "mother(3, 2) = -1", "mother(2, 0) = -1", "days(0, 2) = 1");
        r.run("13: another tree's days do not agree", "'5' = 0", "'5' = 1", "'9' = 2", "mother(1, 0) = -1", "days(2, 0) = NOT",
            "days(2, 1) = NOT", "days(2, 2) = 1", "mother(1, -1) = 0", "days(2, 0) = 9", "days(2, 1) = 9", "days(2, 2) = NOT");
    }

    private static void promise14And15() {
        r.run("14: the first charter and the last", "list(0) = BAD", "2 x lost()", "list(-1) = BAD", "list(2) = BAD", "list(1) = 1",
            "list(0) = 2", "list(2) = BAD", "list(MIN) = BAD", "list(MAX) = BAD", "count(2) = 2");
        r.run("14: told", "2 x lost()", "list(0) = 1", "list(0) = BAD", "list(1) = 2", "list(0) = BAD", "list(1) = BAD",
            "count(2) = 2");
        r.run("14: six, and no seventh", "12 x lost()", "list(11) = 1", "list(0) = 2", "list(5) = 3", "list(3) = 4", "list(7) = 5",
            "list(1) = 6", "list(2) = FULL", "list(10) = FULL", "count(2) = 6");
        r.run("14: BAD ahead of FULL", "12 x lost()", "list(0) = 1", "list(1) = 2", "list(2) = 3", "list(3) = 4", "list(4) = 5",
            "list(5) = 6", "list(0) = BAD", "list(5) = BAD", "list(12) = BAD", "list(-1) = BAD", "list(6) = FULL");
        r.run("15: how many it had", "12 x lost()", "unlist() = 0", "list(3) = 1", "unlist() = 1", "unlist() = 0", "count(2) = 0",
            "list(3) = 1", "list(4) = 2", "list(5) = 3", "list(6) = 4", "list(7) = 5", "list(8) = 6", "unlist() = 6", "count(2) = 0",
            "list(9) = 1", "list(8) = 2", "best(1) = 2");
        r.run("15: empty is fewer than 2", "2 x lost()", "list(0) = 1", "list(1) = 2", "best(1) = 2", "unlist() = 2",
            "best(1) = STATE", "tree(0, 0) = BAD", "never(0) = BAD");
    }

    private static void promise16States() {
        r.run("16: none on the list", "best(-1) = BAD", "best(0) = STATE", "best(1) = STATE", "best(2) = STATE", "best(3) = STATE",
            "best(4) = STATE", "best(5) = BAD", "best(MIN) = BAD", "best(MAX) = BAD");
        r.run("16: one on the list", "2 x lost()", "list(1) = 1", "best(-1) = BAD", "best(0) = STATE", "best(1) = STATE",
            "best(2) = STATE", "best(3) = STATE", "best(4) = STATE", "best(5) = BAD");
        r.run("16: two on the list", "'5,a1' = 0", "'6,a2' = 1", "list(0) = 1", "list(1) = 2", "best(-1) = BAD", "best(0) = 6",
            "best(1) = 1", "best(2) = 3", "best(3) = 6", "best(4) = 0", "best(5) = BAD", "best(MIN) = BAD", "best(MAX) = BAD");
        r.run("16: NOT, but 3", "'5,a1' = 0", "'5,a2' = 1", "list(0) = 1", "list(1) = 2", "best(-1) = BAD", "best(0) = NOT",
            "best(1) = NOT", "best(2) = NOT", "best(3) = 6", "best(4) = NOT", "best(5) = BAD");
        r.run("16: like days", "'5' = 0", "'5' = 1", "list(0) = 1", "list(1) = 2", "best(0) = NOT");
        r.run("16: one day between", "'6' = 0", "'5' = 1", "list(0) = 1", "list(1) = 2", "best(1) = 1", "tree(0, 0) = 1",
            "tree(0, 1) = 9", "best(2) = 3");
        r.run("16: a day for each of two", "'5-6' = 0", "'5-6' = 1", "list(0) = 1", "list(1) = 2", "best(1) = 2", "best(2) = 0");
        r.run("16: a day for one of two alone", "'5-6' = 0", "'5' = 1", "list(0) = 1", "list(1) = 2", "best(1) = 1",
            "tree(0, 0) = 1");
        r.run("16: two of three have no day", "'5' = 0", "'6' = 1", "'5' = 2", "list(0) = 1", "list(1) = 2", "best(1) = 1",
            "list(2) = 3", "best(1) = NOT", "best(3) = 0");
    }

    private static void promise16Trees() {
        int[] all = {0, 1, 2, 9, 64, 625, 7776};
        List<String> lost = rows("6 x lost()", "list(0) = 1");
        for (int n = 2; n <= 6; n++) {
            lost.addAll(List.of("list(" + (n - 1) + ") = " + n, "best(0) = 0", "best(1) = " + all[n], "best(2) = 0", "best(3) = 0",
                "best(4) = 0"));
        }
        r.run("16: one ROOT, all others with a mother: all trees of 2 to 6", lost);
        r.run("16: three in two days", "'5-6' = 0", "'5-6' = 1", "'5-6' = 2", "list(0) = 1", "list(1) = 2", "list(2) = 3",
            "best(1) = 3");
        r.run("16: three in three days", "'5-7' = 0", "'5-7' = 1", "'5-7' = 2", "list(0) = 1", "list(1) = 2", "list(2) = 3",
            "best(1) = 9");
        r.run("16: SURE of the ROOT and of a MOTHER", "'5' = 0", "'6' = 1", "'7' = 2", "list(0) = 1", "list(1) = 2", "list(2) = 3",
            "best(1) = 2", "best(2) = 3", "unlist() = 3", "list(2) = 1", "list(1) = 2", "list(0) = 3", "best(2) = 6");
        r.run("16: by one of cost more it is no best one", "'5,a1,b1' = 0", "'6,a2,b1' = 1", "'7,a2,b0' = 2", "list(0) = 1",
            "list(1) = 2", "list(2) = 3", "best(0) = 10", "best(1) = 1", "price(2, 0) = 6", "best(0) = 4", "best(1) = 2",
            "price(2, 1) = 0", "best(0) = 5", "best(1) = 1");
        r.run("16: by the list alone", "'5,a1' = 0", "'9,a2' = 1", "'6,a1' = 2", "'7,a2' = 3", "list(0) = 1", "list(1) = 2",
            "best(0) = 6", "mother(0, 1) = -1", "mother(3, 2) = -1", "best(0) = 6", "best(1) = 1", "tree(0, 0) = 9", "form(2, 0, 2) = 1",
            "best(0) = 6", "form(1, 0, 1) = 2", "best(0) = 0", "undo() = 3", "best(0) = 6", "redo() = 0", "best(0) = 0");
        r.run("16: torn FORMS are filled anew by each tree", "'5,a1' = 0", "'5,a2' = 1", "'6-9' = 2", "'4' = 3", "list(3) = 1",
            "list(0) = 2", "list(2) = 3", "best(0) = 0", "best(1) = 2", "list(1) = 4", "best(0) = 6", "best(1) = 3", "filled(2, 0) = 15");
        r.run("16: anew behind each change, undone or done again", "'5,a1' = 0", "'6,a2' = 1", "list(0) = 1", "list(1) = 2",
            "best(0) = 6", "price(2, 7) = 6", "best(0) = 7", "undo() = 0", "price(2, 8) = 6", "best(0) = 8", "undo() = 0", "best(0) = 6",
            "redo() = 0", "best(0) = 8", "form(1, 0, 1) = 2", "best(0) = 0", "undo() = 1", "undo() = 0", "redo() = 1", "form(1, 0, 0) = 2",
            "best(0) = 4", "mother(1, 0) = -1", "best(0) = 4");
        r.run("16: anew behind another list", "'5,a1' = 0", "'6,a2' = 1", "'6,a3' = 2", "'6,a0' = 3", "'6' = 4", "'7' = 5", "list(0) = 1",
            "list(1) = 2", "list(2) = 3", "list(3) = 4", "list(4) = 5", "best(0) = 16", "best(1) = 1", "unlist() = 5", "list(0) = 1",
            "list(4) = 2", "list(5) = 3", "best(0) = 0", "best(1) = 2", "list(1) = 4", "best(0) = 6", "best(1) = 3", "unlist() = 4",
            "list(4) = 1", "list(5) = 2", "best(0) = 0", "best(1) = 1", "tree(0, 0) = 9", "tree(0, 1) = 0");
        r.run("16: torn, all told wordings and absent, invented cheaply", "'5,a0' = 0", "'6,a1' = 1", "'7,a2' = 2", "'8' = 3",
            "list(0) = 1", "list(1) = 2", "list(2) = 3", "list(3) = 4", "price(0, 1) = 10", "price(2, 1) = 6", "best(0) = 2",
            "best(1) = 6", "best(2) = 3");
        r.run("16: torn, all told wordings and absent, dropped cheaply", "'5,a1' = 0", "'6,a0' = 1", "'7,a2' = 2", "'8' = 3",
            "list(0) = 1", "list(1) = 2", "list(2) = 3", "list(3) = 4", "price(1, 1) = 4", "best(0) = 7", "best(1) = 3", "best(2) = 7");
        List<String> often = rows("'5,a1,b0' = 0", "'6,a2' = 1", "'6,b1' = 2", "'6,p3' = 3", "'6' = 4", "'6,a2,b1,p1' = 5", "list(0) = 1",
            "list(1) = 2", "list(2) = 3", "list(3) = 4", "list(4) = 5", "list(5) = 6");
        for (int turn = 7; turn < 30; turn++) {
            often.add("price(2, " + turn + ") = " + (turn - 1));
            // a: two turns; b: two invented; p: one turn, or two invented under a torn ROOT
            often.add("best(0) = " + (2 * turn + 20 + Math.min(turn, 20)));
        }
        r.run("16: six with torn FORMS, again and again", often);
        r.run("16: the dearest: 5 * 16 * 99, by one ROOT", dear());
    }

    /** The oldest has no clause, the others all of them, but each only its mother's days. */
    private static List<String> dear() {
        List<String> rows = rows();
        for (int i = 0; i < 6; i++) {
            StringBuilder text = new StringBuilder(i == 0 ? "5" : "6");
            for (char k = 'a'; k <= 'p'; k++) {
                text.append(',').append(k).append(i == 0 ? 0 : 1);
            }
            rows.add("'" + text + "' = " + i);
            rows.add("list(" + i + ") = " + (i + 1));
        }
        rows.addAll(List.of("price(0, 99) = 10", "best(0) = 7920", "best(1) = 1", "best(2) = 63", "best(3) = 0", "best(4) = 7920"));
        return rows;
    }

    private static void promise16Bound() {
        String[][] of = {{"'5,a0' = 0", "'6' = 1", "0"}, {"'5,a0' = 0", "'6,a1' = 1", "0"}, {"'5,a1' = 0", "'6,a1' = 1", "0"},
            {"'5,a1' = 0", "'6' = 1", "0"}, {"'5,a1' = 0", "'6,a3' = 1", "6"}, {"'5,a2,p1' = 0", "'6,a1,p2' = 1", "12"},
            {"'5' = 0", "'6' = 1", "0"}, {"'5,a0,b1,c1' = 0", "'6,a0,b2,c0' = 1", "6"}};
        for (String[] o : of) {
            r.run("16: BOUND of " + o[0] + " and " + o[1], o[0], o[1], "list(0) = 1", "list(1) = 2", "best(3) = " + o[2]);
        }
        r.run("16: BOUND by unlike wordings of the list", "'5,a1' = 0", "'6,a2' = 1", "'7,a3' = 2", "'8,a2' = 3", "'9,a0' = 4",
            "list(0) = 1", "list(3) = 2", "best(3) = 6", "list(1) = 3", "best(3) = 6", "list(4) = 4", "best(3) = 6", "list(2) = 5",
            "best(3) = 12");
        r.run("16: BOUND by the least of INVENT and TURN", "'5,a1' = 0", "'6,a2' = 1", "list(0) = 1", "list(1) = 2",
            "price(0, 7) = 10", "best(3) = 6", "price(0, 6) = 7", "best(3) = 6", "price(0, 5) = 6", "best(3) = 5", "best(4) = 1",
            "price(0, 0) = 5", "best(3) = 0", "best(4) = 6", "price(0, 99) = 0", "price(2, 0) = 6", "best(3) = 0", "best(4) = 0");
        r.run("16: GAP of what is invented and dropped", "'5,a1,b0,c1' = 0", "'6,a2,b1,c0' = 1", "list(0) = 1", "list(1) = 2",
            "best(0) = 20", "best(3) = 6", "best(4) = 14");
    }

    private static void promise17() {
        r.run("17: i and place", "'5-6' = 0", "'5-6' = 1", "'5-6' = 2", "list(0) = 1", "list(1) = 2", "list(2) = 3", "tree(-1, 0) = BAD",
            "tree(0, -1) = BAD", "tree(0, 0) = 1", "tree(0, 1) = 9", "tree(0, 2) = 1", "tree(0, 3) = BAD", "tree(1, 0) = 2",
            "tree(1, 1) = 2", "tree(1, 2) = 9", "tree(2, 0) = 9", "tree(2, 1) = 0", "tree(2, 2) = 0", "tree(3, 0) = BAD",
            "tree(3, 2) = BAD", "tree(2, 3) = BAD", "tree(MAX, 0) = BAD", "tree(MIN, 0) = BAD", "tree(0, MAX) = BAD",
            "tree(0, MIN) = BAD");
        r.run("17: none on the list", "tree(0, 0) = BAD", "tree(0, -1) = BAD", "tree(-1, 0) = BAD", "tree(0, 6) = BAD");
        r.run("17: one on the list", "2 x lost()", "list(0) = 1", "tree(0, 0) = STATE", "tree(0, 1) = BAD", "tree(0, -1) = BAD",
            "tree(-1, 0) = BAD");
        r.run("17: two on the list", "2 x lost()", "list(0) = 1", "list(1) = 2", "tree(0, 0) = 1", "tree(0, 1) = 9", "tree(1, 0) = 9",
            "tree(1, 1) = 0", "tree(2, 0) = BAD", "tree(0, 2) = BAD");
        r.run("17: NOT", "'5' = 0", "'5' = 1", "list(0) = 1", "list(1) = 2", "tree(0, 0) = NOT", "tree(0, 1) = NOT", "tree(0, 2) = BAD",
            "tree(0, -1) = BAD", "tree(-1, 0) = BAD");
        r.run("17: places as the list was told", "'5' = 0", "'6' = 1", "'7' = 2", "list(2) = 1", "list(0) = 2", "list(1) = 3",
            "best(1) = 2", "tree(0, 0) = 1", "tree(0, 1) = 9", "tree(0, 2) = 1", "tree(1, 0) = 2", "tree(1, 1) = 9", "tree(1, 2) = 1");
        r.run("17: the last of all trees of six", "6 x lost()", "list(0) = 1", "list(1) = 2", "list(2) = 3", "list(3) = 4",
            "list(4) = 5", "list(5) = 6", "tree(0, 0) = 1", "tree(0, 1) = 2", "tree(0, 2) = 3", "tree(0, 3) = 4", "tree(0, 4) = 5",
            "tree(0, 5) = 9", "tree(7775, 0) = 9", "tree(7775, 1) = 5", "tree(7775, 2) = 5", "tree(7775, 3) = 5", "tree(7775, 4) = 5",
            "tree(7775, 5) = 0", "tree(7776, 0) = BAD", "tree(0, 6) = BAD");
    }

    private static void promise18() {
        r.run("18: place", "'5-6' = 0", "'5-6' = 1", "'5-6' = 2", "list(0) = 1", "list(1) = 2", "list(2) = 3", "never(-1) = BAD",
            "never(0) = 1", "never(1) = 2", "never(2) = 4", "never(3) = BAD", "never(MIN) = BAD", "never(MAX) = BAD");
        r.run("18: none on the list, and one", "lost() = 0", "never(-1) = BAD", "never(0) = BAD", "list(0) = 1", "never(0) = STATE",
            "never(-1) = BAD", "never(1) = BAD");
        r.run("18: NOT", "'5' = 0", "'5' = 1", "list(0) = 1", "list(1) = 2", "never(0) = NOT", "never(1) = NOT", "never(2) = BAD",
            "never(-1) = BAD");
        r.run("18: of the ROOT in all: all places", "'5' = 0", "'6' = 1", "'7' = 2", "list(0) = 1", "list(1) = 2", "list(2) = 3",
            "never(0) = 7", "never(1) = 6", "never(2) = 4");
        r.run("18: of six: its own alone", "6 x lost()", "list(5) = 1", "list(4) = 2", "list(3) = 3", "list(2) = 4", "list(1) = 5",
            "list(0) = 6", "never(0) = 1", "never(5) = 32", "never(6) = BAD");
    }

    private static void promise19() {
        r.run("19: in all, in some, in none", "'5-6' = 0", "'5-6<0' = 1", "list(0) = 1", "list(1) = 2", "claim(1) = 1", "'9<1' = 2",
            "unlist() = 2", "list(1) = 1", "list(2) = 2", "claim(2) = 2", "'4<2' = 3", "list(3) = 3", "claim(3) = 0");
        r.run("19: in some of three", "'5' = 0", "'6' = 1", "'7<1' = 2", "'7<0' = 3", "list(0) = 1", "list(1) = 2", "list(2) = 3",
            "list(3) = 4", "claim(2) = 1", "claim(3) = 1", "form(0, 0, 1) = 9", "form(2, 0, 1) = 9", "form(1, 0, 2) = 9",
            "form(3, 0, 2) = 9", "claim(2) = 0", "claim(3) = 0");
        r.run("19: the first charter and the last", "'5' = 0", "'6<0' = 1", "list(0) = 1", "list(1) = 2", "claim(-1) = BAD",
            "claim(0) = BAD", "claim(1) = 2", "claim(2) = BAD", "claim(MIN) = BAD", "claim(MAX) = BAD");
        r.run("19: it SAYS nothing", "'5' = 0", "'6' = 1", "lost() = 2", "list(0) = 1", "list(1) = 2", "list(2) = 3", "claim(0) = BAD",
            "claim(1) = BAD", "claim(2) = BAD");
        r.run("19: neither is on the list, one, the other, both", "'5' = 0", "'6<0' = 1", "'7' = 2", "claim(1) = BAD", "list(1) = 1",
            "claim(1) = BAD", "list(2) = 2", "claim(1) = BAD", "unlist() = 2", "list(0) = 1", "claim(1) = BAD", "list(2) = 2",
            "claim(1) = BAD", "list(1) = 3", "claim(1) = 2");
        r.run("19: the child first on the list", "'5' = 0", "'6<0' = 1", "list(1) = 1", "claim(1) = BAD", "list(0) = 2", "claim(1) = 2",
            "claim(0) = BAD");
        r.run("19: NOT", "'5' = 0", "'5<0' = 1", "list(0) = 1", "list(1) = 2", "claim(1) = NOT", "claim(0) = BAD");
        r.run("19: by another one's days", "'5' = 0", "'6<0' = 1", "'5' = 2", "list(0) = 1", "list(1) = 2", "claim(1) = 2",
            "list(2) = 3", "claim(1) = NOT");
    }
}
