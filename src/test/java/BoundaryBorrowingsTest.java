import java.util.ArrayList;
import java.util.List;

/** Promises 20 to 31 at their boundaries: just within, at, just beyond; each run on a new object (see Runs). */
public final class BoundaryBorrowingsTest {
    private static final Runs r = new Runs();

    public static void main(String[] args) {
        promise20Numbers();
        promise20Lenders();
        promise20Chapters();
        promise20Filled();
        promise21();
        promise21Lenders();
        promise22And23();
        promise22Most();
        promise24();
        promise25();
        promise26();
        promise27();
        promise27Slips();
        promise27Digits();
        promise28();
        promise29And30();
        promise30Others();
        promise29Kept();
        promise31();
        r.end();
    }

    private static List<String> rows(String... some) {
        return new ArrayList<>(List.of(some));
    }

    private static String text(String days, int form) {
        StringBuilder text = new StringBuilder("'").append(days);
        for (char k = 'a'; k <= 'p'; k++) {
            text.append(',').append(k).append(form);
        }
        return text.append("' = ").toString();
    }

    private static void promise20Numbers() {
        r.run("20: k", "few(-1) = BAD", "few(0) = 0", "few(20) = 0", "few(21) = BAD", "few(MIN) = BAD", "few(MAX) = BAD",
            "'1,a1' = 0", "'50,a2' = 1", "'40,a2' = 2", "mother(1, 0) = -1", "few(-1) = BAD", "few(0) = 6", "few(1) = 5",
            "few(2) = 5", "few(20) = 5", "few(21) = BAD");
        r.run("20: at most so many of four", "'1,a1,e1,i1,m1' = 0", "'50,a2,e2,i2,m2' = 1", "'40,a2,e2,i2,m2' = 2",
            "mother(1, 0) = -1", "few(0) = 24", "few(1) = 23", "few(2) = 22", "few(3) = 21", "few(4) = 20", "few(5) = 20");
        r.run("20: the greatest gains first", "'1,a1,e0,i1' = 0", "'50,a2,e2,i0' = 1", "'40,a2,e2,i0' = 2", "mother(1, 0) = -1",
            "price(3, 1) = 5", "few(0) = 20", "few(1) = 11", "few(2) = 6", "few(3) = 3", "few(4) = 3");
        r.run("20: twenty of thirty-two", text("1", 1) + 0, text("50", 2) + 1, text("50", 2) + 2, text("40", 2) + 3,
            "mother(1, 0) = -1", "mother(2, 0) = -1", "price(3, 0) = 5", "price(4, 99) = 8", "few(0) = 192", "few(1) = 186",
            "few(16) = 96", "few(17) = 90", "few(19) = 78", "few(20) = 72", "few(21) = BAD");
        r.run("20: the clauses' COST: one less, like, one more", "'1,a1' = 0", "'50,a2' = 1", "'40,a2' = 2", "mother(1, 0) = -1",
            "price(4, 99) = 8", "price(3, 5) = 5", "few(1) = 5", "price(3, 6) = 5", "few(1) = 6", "price(3, 7) = 6", "few(1) = 6",
            "price(3, 0) = 7", "few(1) = 0");
        r.run("20: no gain from what costs nothing", "'1,a1' = 0", "'50,a1' = 1", "'40,a1' = 2", "mother(1, 0) = -1",
            "price(3, 0) = 5", "price(4, 0) = 8", "few(0) = 0", "few(20) = 0");
        r.run("20: a ROOT borrows nothing, and costs nothing", "'50,a2' = 0", "'40,a2' = 1", "few(0) = 0", "few(20) = 0");
        r.run("20: what is absent, too", "'1,a1' = 0", "'50,a0' = 1", "'40,a0' = 2", "mother(1, 0) = -1", "price(3, 3) = 5",
            "few(0) = 4", "few(1) = 3", "price(3, 4) = 3", "few(1) = 4");
    }

    private static void promise20Lenders() {
        String[][] days = {{"50-60", "59", "5"}, {"50-60", "60", "6"}, {"50-60", "61", "6"}, {"60", "59", "5"}, {"60", "60", "6"},
            {"50-60", "59-99", "5"}, {"50-60", "60-99", "6"}, {"0-1", "0", "5"}, {"0", "0", "6"}, {"999", "998-999", "5"},
            {"998-999", "999", "6"}};
        for (String[] d : days) {
            r.run("20: a first DAY less than the last: " + d[1] + " to " + d[0], "'1,a1' = 0", "'" + d[0] + ",a2' = 1",
                "'" + d[1] + ",a2' = 2", "mother(1, 0) = -1", "few(0) = 6", "few(1) = " + d[2], "few(20) = " + d[2]);
        }
        r.run("20: not itself", "'40-60,a2' = 0", "'1,a1' = 1", "mother(0, 1) = -1", "few(20) = 6");
        r.run("20: not of one under it, but of a sister", "'1,a1' = 0", "'40-60,a2' = 1", "'41-70,a2' = 2", "'42-80,a2' = 3",
            "mother(1, 0) = -1", "mother(2, 1) = -1", "mother(3, 2) = -1", "few(0) = 6", "few(20) = 6", "mother(3, 0) = 2",
            "few(0) = 12", "few(1) = 11", "few(2) = 10", "few(20) = 10");
        r.run("20: not of its MOTHER, whatever a chapter costs", "'1,a1,b2' = 0", "'40-60,a2,b2' = 1", "mother(1, 0) = -1",
            "price(4, 0) = 8", "few(20) = 6");
        r.run("20: of its MOTHER's MOTHER", "'1,a1' = 0", "'2,a2' = 1", "'9,a1' = 2", "mother(1, 0) = -1", "mother(2, 1) = -1",
            "few(0) = 12", "few(1) = 11", "few(20) = 11");
        r.run("20: only with a like FORM", "'1,a1' = 0", "'50,a2' = 1", "'40,a3' = 2", "'40,a0' = 3", "'40,b2' = 4",
            "mother(1, 0) = -1", "form(4, 0, 1) = 9", "few(20) = 6", "form(4, 0, 2) = 1", "few(20) = 5");
    }

    private static void promise20Chapters() {
        r.run("20: a chapter's COST: one less, like, one more", "'1,a1,b1' = 0", "'50,a2,b2' = 1", "'40,a2,b2' = 2",
            "mother(1, 0) = -1", "price(3, 99) = 5", "few(0) = 12", "few(1) = 8", "few(20) = 8", "price(4, 11) = 8", "few(1) = 11",
            "price(4, 12) = 11", "few(1) = 12", "price(4, 13) = 12", "few(1) = 12", "price(4, 0) = 13", "few(1) = 0");
        for (int first = 0; first < 15; first++) {
            char one = (char) ('a' + first), two = (char) ('a' + first + 1);
            boolean apart = first % 4 == 3;
            r.run("20: " + one + " and " + two + ": " + (apart ? "two chapters" : "one"), "'1," + one + "1," + two + "1' = 0",
                "'50," + one + "2," + two + "2' = 1", "'40," + one + "2," + two + "2' = 2", "mother(1, 0) = -1", "price(3, 99) = 5",
                "price(4, 1) = 8", "few(0) = 12", "few(1) = " + (apart ? 7 : 1), "few(2) = " + (apart ? 2 : 1));
        }
        r.run("20: of a chapter at most one as a chapter, others besides", "'1,a1,b1,c1,d1' = 0", "'50,a2,b2,c2,d2' = 1",
            "'40,a2,b2,c3,d3' = 2", "'40,a3,b3,c2,d2' = 3", "mother(1, 0) = -1", "price(3, 99) = 5", "price(4, 1) = 8",
            "few(0) = 24", "few(1) = 13", "few(2) = 13", "few(20) = 13", "price(3, 5) = 99", "few(1) = 13", "few(2) = 12",
            "few(3) = 11", "few(20) = 11", "price(3, 6) = 5", "few(20) = 13");
        r.run("20: two children of one chapter each", "'1,a1,b1' = 0", "'50,a2,b2' = 1", "'50,a2,b2' = 2", "'40,a2,b2' = 3",
            "mother(1, 0) = -1", "mother(2, 0) = -1", "price(3, 99) = 5", "few(0) = 24", "few(1) = 20", "few(2) = 16", "few(3) = 16");
        r.run("20: four chapters of one child", text("1", 1) + 0, text("50", 2) + 1, text("40", 2) + 2, "mother(1, 0) = -1",
            "few(0) = 96", "few(1) = 80", "few(2) = 64", "few(3) = 48", "few(4) = 32", "few(5) = 32", "few(20) = 32");
        r.run("20: a chapter of charter 0", "'40,a2,b2' = 0", "'1,a1,b1' = 1", "'50,a2,b2' = 2", "mother(2, 1) = -1",
            "price(3, 99) = 5", "few(0) = 12", "few(1) = 8");
        r.run("20: the first clause of a chapter besides the others", "'1,a1,b1,c1,d1' = 0", "'50,a2,b2,c2,d2' = 1",
            "'40,a3,b2,c2,d2' = 2", "'40,a2,b3,c3,d3' = 3", "mother(1, 0) = -1", "few(0) = 24", "few(1) = 14", "few(2) = 13",
            "few(3) = 13");
        r.run("20: a chapter's others cost as from the MOTHER", "'1,a1,b1,c0,d1' = 0", "'50,a2,b2,c2,d2' = 1",
            "'40,a2,b2,c3,d2' = 2", "mother(1, 0) = -1", "few(0) = 28", "few(1) = 18", "few(20) = 18");
        r.run("20: what a chapter serves is not paid besides: single ones instead", "'1,a1,b1' = 0", "'50,a2,b2' = 1",
            "'40,a2,b2' = 2", "mother(1, 0) = -1", "price(4, 9) = 8", "price(3, 4) = 5", "few(1) = 9", "few(2) = 8",
            "price(3, 5) = 4", "few(1) = 9", "few(2) = 9");
    }

    private static void promise20Filled() {
        r.run("20: of a torn FORM the least that it may be", "'1,a2' = 0", "'2' = 1", "'3,a1' = 2", "'1,a2' = 3",
            "mother(1, 0) = -1", "mother(2, 1) = -1", "filled(1, 0) = 6", "few(0) = 6", "price(3, 1) = 5", "few(1) = 6",
            "form(1, 0, 2) = 9", "few(0) = 6", "few(1) = 6", "form(1, 0, 1) = 2", "few(1) = 6", "form(3, 0, 1) = 2", "few(1) = 1");
        r.run("20: of one that is torn and filled", "'1,a1' = 0", "'50,a2' = 1", "'30' = 2", "'31,a2' = 3", "mother(1, 0) = -1",
            "mother(3, 2) = -1", "form(3, 0, 2) = 2", "filled(2, 0) = 4", "few(1) = 5", "from(1, 0) = 2");
        r.run("20: no DAYS are needed that agree", "'9,a1' = 0", "'5,a2' = 1", "'4,a2' = 2", "mother(1, 0) = -1", "days(0, 2) = 1",
            "few(1) = 5");
    }

    private static void promise21() {
        r.run("21: the first clause and the last", "'1,a1,p1' = 0", "'50,a2,p2' = 1", "'40,a2,p2' = 2", "mother(1, 0) = -1",
            "from(1, -1) = BAD", "from(1, 0) = 2", "from(1, 1) = NOT", "from(1, 15) = 2", "from(1, 16) = BAD", "from(1, MIN) = BAD",
            "from(1, MAX) = BAD");
        r.run("21: the first charter and the last", "'50,a2' = 0", "'1,a1' = 1", "'40,a2' = 2", "mother(0, 1) = -1",
            "from(-1, 0) = BAD", "from(0, 0) = 2", "from(2, 0) = NOT", "from(3, 0) = BAD", "from(MIN, 0) = BAD", "from(MAX, 0) = BAD");
        r.run("21: with gain: one less, like, one more", "'1,a1' = 0", "'50,a2' = 1", "'40,a2' = 2", "mother(1, 0) = -1",
            "from(1, 0) = 2", "price(3, 6) = 5", "from(1, 0) = NOT", "price(3, 7) = 6", "from(1, 0) = NOT", "price(2, 8) = 6",
            "from(1, 0) = 2", "price(2, 7) = 8", "from(1, 0) = NOT");
        r.run("21: with gain by what is invented, and dropped", "'1,a0,b1' = 0", "'50,a2,b0' = 1", "'40,a2,b0' = 2",
            "mother(1, 0) = -1", "price(3, 9) = 5", "from(1, 0) = 2", "price(3, 10) = 9", "from(1, 0) = NOT", "price(3, 3) = 10",
            "from(1, 1) = 2", "price(3, 4) = 3", "from(1, 1) = NOT");
        r.run("21: like its MOTHER's: no gain", "'1,a2' = 0", "'50,a2' = 1", "'40,a2' = 2", "mother(1, 0) = -1", "price(3, 0) = 5",
            "from(1, 0) = NOT");
        r.run("21: a ROOT", "'1,a1' = 0", "'50,a2' = 1", "'40,a2' = 2", "price(3, 0) = 5", "from(1, 0) = NOT");
        r.run("21: the least y", "'1,a1' = 0", "'50,a2' = 1", "'50,a2' = 2", "'49,a3' = 3", "'49,a2' = 4", "'2,a2' = 5",
            "mother(1, 0) = -1", "from(1, 0) = 4", "form(4, 0, 3) = 2", "from(1, 0) = 5", "form(5, 0, 3) = 2", "from(1, 0) = NOT");
        r.run("21: a chapter is no matter", "'1,a1,b1' = 0", "'50,a2,b2' = 1", "'40,a2,b2' = 2", "mother(1, 0) = -1",
            "price(3, 6) = 5", "price(4, 0) = 8", "from(1, 0) = NOT");
        r.run("21: of twelve", "'1,a1' = 0", "'50,a2' = 1", "9 x lost()", "'49,a2' = 11", "mother(1, 0) = -1", "from(1, 0) = 11",
            "from(12, 0) = BAD");
    }

    private static void promise21Lenders() {
        String[][] days = {{"50-60", "59", "2"}, {"50-60", "60", "NOT"}, {"60", "59", "2"}, {"60", "60", "NOT"},
            {"50-60", "59-99", "2"}, {"50-60", "60-99", "NOT"}};
        for (String[] d : days) {
            r.run("21: a first DAY less than the last: " + d[1] + " to " + d[0], "'1,a1' = 0", "'" + d[0] + ",a2' = 1",
                "'" + d[1] + ",a2' = 2", "mother(1, 0) = -1", "from(1, 0) = " + d[2]);
        }
        r.run("21: not itself", "'40-60,a2' = 0", "'1,a1' = 1", "mother(0, 1) = -1", "from(0, 0) = NOT");
        r.run("21: not one under it", "'1,a1' = 0", "'40-60,a2' = 1", "'41-70,a2' = 2", "'42-80,a2' = 3", "mother(1, 0) = -1",
            "from(1, 0) = 2", "mother(2, 1) = -1", "from(1, 0) = 3", "mother(3, 2) = -1", "from(1, 0) = NOT", "mother(3, 0) = 2",
            "from(1, 0) = 3", "from(3, 0) = 1", "mother(3, -1) = 0", "from(1, 0) = 3");
        r.run("21: its MOTHER's MOTHER", "'1,a1' = 0", "'2,a2' = 1", "'9,a1' = 2", "mother(1, 0) = -1", "mother(2, 1) = -1",
            "from(2, 0) = 0");
    }

    private static void promise22And23() {
        r.run("22: no pair", "pairs(-2) = BAD", "pairs(-1) = 0", "pairs(0) = BAD", "pairs(1) = BAD", "pairs(MIN) = BAD",
            "pairs(MAX) = BAD");
        String[] four = {"'5,a0,b0'", "'5,a1,b0'", "'5,a0,b2'", "'5,a3,b1'"};
        for (int out = 0; out < 4; out++) {
            List<String> three = rows();
            for (int i = 0; i < 4; i++) {
                if (i != out) {
                    three.add(four[i] + " = " + three.size());
                }
            }
            three.addAll(List.of("pairs(-1) = 0", "pairs(0) = BAD", "freed() = 0", four[out] + " = 3", "pairs(-1) = 1", "pairs(0) = 1",
                "pairs(1) = BAD", "pairs(-2) = BAD", "freed() = 1", "form(3, 0, 9) = " + four[out].charAt(4), "pairs(-1) = 0",
                "undo() = 0", "form(3, 1, 9) = " + four[out].charAt(7), "pairs(-1) = 0"));
            r.run("22: all four but one, then all: " + four[out], three);
        }
        r.run("22: the last pair, and 23: of like ones the least", "'5,o0,p0' = 0", "'5,o1,p0' = 1", "'5,o0,p1' = 2",
            "'5,o1,p1' = 3", "pairs(-1) = 1", "pairs(0) = 239", "pairs(1) = BAD", "freed() = 0x4000");
        r.run("22: three of three, and 23: two of them", "'5,a0,b0,c0' = 0", "'5,a1,b0,c1' = 1", "'5,a0,b1,c1' = 2",
            "'5,a1,b1,c0' = 3", "pairs(-1) = 3", "pairs(0) = 1", "pairs(1) = 2", "pairs(2) = 18", "pairs(3) = BAD", "freed() = 3");
        r.run("23: one of a pair, two of two pairs", "'5,a0,b0,c0,d0' = 0", "'5,a1,b0,c1,d0' = 1", "'5,a0,b1,c0,d1' = 2",
            "'5,a1,b1,c1,d1' = 3", "pairs(-1) = 4", "pairs(0) = 1", "pairs(1) = 3", "pairs(2) = 18", "pairs(3) = 35", "freed() = 5",
            "form(3, 2, 9) = 1", "pairs(-1) = 2", "freed() = 1", "form(3, 0, 9) = 1", "pairs(-1) = 0", "freed() = 0");
        r.run("23: the one that is in all, though not the least", "'5,a0,b0,c0' = 0", "'5,a0,b0,c1' = 1", "'5,a1,b1,c0' = 2",
            "'5,a1,b1,c1' = 3", "pairs(-1) = 2", "pairs(0) = 2", "pairs(1) = 18", "freed() = 4");
        r.run("23: new", "freed() = 0");
        r.run("22: LOST ones show nothing", "'5,a0,b0' = 0", "'5,a1,b0' = 1", "'5,a0,b2' = 2", "lost() = 3", "pairs(-1) = 0",
            "form(3, 0, 1) = 9", "pairs(-1) = 0", "form(3, 1, 1) = 9", "pairs(-1) = 1");
    }

    /** Sixteen clauses of six each of twelve charters, all with charter 0: each two of them clash. */
    private static void promise22Most() {
        int[] present = new int[16];
        int n = 0;
        for (int bits = 1; bits < 4096 && n < 16; bits += 2) {
            if (Integer.bitCount(bits) == 6) {
                present[n] = bits;
                n++;
            }
        }
        List<String> all = rows();
        for (int c = 0; c < 12; c++) {
            StringBuilder text = new StringBuilder("5");
            for (int k = 0; k < 16; k++) {
                text.append(',').append((char) ('a' + k)).append(present[k] >> c & 1);
            }
            all.add("'" + text + "' = " + c);
        }
        all.addAll(List.of("pairs(-1) = 120", "pairs(0) = 1", "pairs(14) = 15", "pairs(15) = 18", "pairs(119) = 239",
            "pairs(120) = BAD", "freed() = 0x7fff"));
        r.run("22: all 120 pairs, and 23: fifteen clauses", all);
    }

    private static void promise24() {
        r.run("24: what", "'5' = 0", "'5<0' = 1", "doubt(-1) = BAD", "doubt(0) = 1", "doubt(1) = 2", "doubt(2) = BAD",
            "doubt(MIN) = BAD", "doubt(MAX) = BAD");
        r.run("24: no charters, no claims", "doubt(-1) = BAD", "doubt(0) = 0", "doubt(1) = 0", "doubt(2) = BAD", "'5' = 0", "'5' = 1",
            "doubt(0) = 0", "doubt(1) = 0");
        r.run("24: like days", "'5' = 0", "'5<0' = 1", "doubt(0) = 1", "'6<0' = 2", "doubt(0) = 1", "'5-6<0' = 3", "doubt(0) = 1",
            "doubt(1) = 2");
        r.run("24: all of them together: two days for three", "'5-6' = 0", "'5-6<0' = 1", "doubt(0) = 0", "'5-6<1' = 2", "doubt(0) = 1",
            "doubt(1) = 2", "'5-7<1' = 3", "doubt(0) = 1", "doubt(1) = 2", "'4-5<3' = 4", "doubt(0) = 2", "doubt(1) = 18");
        r.run("24: three days for three", "'5-6' = 0", "'5-6<0' = 1", "'5-7<1' = 2", "doubt(0) = 0", "doubt(1) = 0");
        r.run("24: THE TREE told by hand is no matter", "'5' = 0", "'6<0' = 1", "mother(0, 1) = -1", "doubt(0) = 0",
            "list(0) = 1", "doubt(0) = 0");
        List<String> twelve = rows("'5' = 0");
        for (int i = 1; i < 12; i++) {
            twelve.add("'5<0' = " + i);
        }
        twelve.addAll(List.of("doubt(0) = 11", "doubt(1) = 4094"));
        r.run("24: all eleven", twelve);
        List<String> chain = rows("'0-11' = 0");
        for (int i = 1; i < 12; i++) {
            chain.add("'0-11<" + (i - 1) + "' = " + i);
        }
        chain.addAll(List.of("doubt(0) = 0", "doubt(1) = 0"));
        r.run("24: twelve days for twelve", chain);
        List<String> shorter = rows("'0-10' = 0");
        for (int i = 1; i < 12; i++) {
            shorter.add("'0-10<" + (i - 1) + "' = " + i);
        }
        shorter.addAll(List.of("doubt(0) = 1", "doubt(1) = 2"));
        r.run("24: eleven days for twelve", shorter);
    }

    private static void promise25() {
        r.run("25: the first clause and the last", "'5,a1,p1' = 0", "'6,a2,p2' = 1", "mother(1, 0) = -1", "law(0, -1) = BAD",
            "law(0, 0) = 4", "law(0, 1) = 15", "law(0, 15) = 4", "law(0, 16) = BAD", "law(0, MIN) = BAD", "law(0, MAX) = BAD");
        r.run("25: the first charter and the last", "'5,a1' = 0", "'6,a2' = 1", "mother(1, 0) = -1", "law(-1, 0) = BAD", "law(0, 0) = 4",
            "law(1, 0) = 2", "law(2, 0) = BAD", "law(MIN, 0) = BAD", "law(MAX, 0) = BAD");
        r.run("25: without daughters and mother", "'5,a1' = 0", "law(0, 0) = 15", "filled(0, 0) = 2");
        r.run("25: two daughters, like and unlike", "'5,a3' = 0", "'6,a1' = 1", "'6,a2' = 2", "'6,a1' = 3", "mother(1, 0) = -1",
            "law(0, 0) = 2", "mother(2, 0) = -1", "law(0, 0) = 6", "mother(3, 0) = -1", "law(0, 0) = 2", "ofCharter(0, 10) = 3",
            "filled(0, 0) = 8");
        r.run("25: absent or dropped", "'5' = 0", "'6,a0' = 1", "'6,a1' = 2", "mother(1, 0) = -1", "mother(2, 0) = -1", "law(0, 0) = 2",
            "price(1, 9) = 4", "law(0, 0) = 2", "price(1, 10) = 9", "law(0, 0) = 3", "price(1, 11) = 10", "law(0, 0) = 1");
        r.run("25: its own FORMS alone are burnt", "'5,a1' = 0", "'6,a2' = 1", "'7,a1' = 2", "mother(1, 0) = -1", "mother(2, 1) = -1",
            "law(2, 0) = 4", "law(1, 0) = 2", "law(0, 0) = 4");
    }

    private static void promise26() {
        r.run("26: the first clause and the last", "'5,a1,p1' = 0", "'6,a1,p2' = 1", "mother(1, 0) = -1", "cameIn(1, -1) = BAD",
            "cameIn(1, 0) = 0", "cameIn(1, 1) = NOT", "cameIn(1, 15) = 1", "cameIn(1, 16) = BAD", "cameIn(1, MIN) = BAD",
            "cameIn(1, MAX) = BAD");
        r.run("26: the first charter and the last", "'5,a1' = 0", "'6,a1' = 1", "mother(1, 0) = -1", "cameIn(-1, 0) = BAD",
            "cameIn(0, 0) = 0", "cameIn(1, 0) = 0", "cameIn(2, 0) = BAD", "cameIn(MIN, 0) = BAD", "cameIn(MAX, 0) = BAD");
        r.run("26: absent, told and filled", "'5,a0' = 0", "'6' = 1", "lost() = 2", "mother(1, 0) = -1", "cameIn(0, 0) = NOT",
            "cameIn(1, 0) = NOT", "cameIn(2, 0) = NOT");
        r.run("26: a break by another wording", "'5,a1' = 0", "'6,a2' = 1", "'7,a1' = 2", "'8,a1' = 3", "mother(1, 0) = -1",
            "mother(2, 1) = -1", "mother(3, 2) = -1", "cameIn(3, 0) = 2", "form(1, 0, 1) = 2", "cameIn(3, 0) = 0", "form(1, 0, 0) = 1",
            "cameIn(3, 0) = 2");
        r.run("26: through a torn one", "'5,a2' = 0", "'6' = 1", "'7,a1' = 2", "mother(1, 0) = -1", "mother(2, 1) = -1",
            "cameIn(2, 0) = 1", "cameIn(1, 0) = 1", "cameIn(0, 0) = 0", "form(0, 0, 1) = 2", "cameIn(2, 0) = 0", "cameIn(1, 0) = 0");
        List<String> twelve = rows("'5,a3' = 0");
        for (int i = 1; i < 12; i++) {
            twelve.add("lost() = " + i);
            twelve.add("mother(" + i + ", " + (i - 1) + ") = -1");
        }
        twelve.addAll(List.of("cameIn(11, 0) = 0", "cameIn(1, 0) = 0", "mother(6, -1) = 5", "cameIn(11, 0) = NOT",
            "form(11, 0, 3) = 9", "cameIn(11, 0) = 6", "cameIn(5, 0) = 0"));
        r.run("26: along a chain of twelve", twelve);
    }

    private static void promise27() {
        for (String call : List.of("slip", "chain")) {
            r.run("27, 28: numbers of " + call, call + "(0, 1) = BAD", call + "(1, 0) = BAD", call + "(0, 0) = BAD", call + "(1, 1) = 0",
                call + "(99999, 99999) = 0", call + "(100000, 99999) = BAD", call + "(99999, 100000) = BAD",
                call + "(100000, 100000) = BAD", call + "(-1, 1) = BAD", call + "(1, -1) = BAD", call + "(MIN, 1) = BAD",
                call + "(1, MAX) = BAD");
        }
    }

    private static void promise27Slips() {
        int[][] due = {
            // a digit left out: the first, one within, the last; not the one that there is; not to a first 0
            {12345, 2345, 1}, {12345, 1345, 1}, {12345, 1245, 1}, {12345, 1235, 1}, {12345, 1234, 1}, {12, 1, 1}, {12, 2, 1}, {10, 1, 1},
            {100, 10, 1}, {105, 15, 1}, {105, 10, 1}, {105, 5, -2}, {1005, 5, -2}, {1005, 105, 1}, {90000, 9000, 1}, {12345, 123, -2},
            {12345, 125, -2}, {123, 3, -2}, {99999, 9999, 1}, {11, 1, 1},
            // a digit written twice: the first, one within, the last; not of five; not two digits
            {1234, 11234, 2}, {1234, 12234, 2}, {1234, 12334, 2}, {1234, 12344, 2}, {1, 11, 2}, {5, 55, 2}, {10, 100, 2}, {10, 110, 2},
            {9999, 99999, 2}, {12, 1212, -2}, {1, 111, -2}, {1, 12, -2}, {12, 112, 2}, {12, 121, -2}, {10, 101, -2},
            // two beside each other changed about: the first, the last; not two apart; not to a first 0
            {12345, 21345, 3}, {12345, 13245, 3}, {12345, 12435, 3}, {12345, 12354, 3}, {12, 21, 3}, {123, 321, -2}, {12345, 52341, -2},
            {1023, 123, 1}, {102, 12, 1}, {102, 201, -2}, {102, 120, 3}, {10, 1, 1}, {99998, 99989, 3},
            // one digit read as another one, either way; nothing else looks alike; two are two
            {1, 7, 4}, {7, 1, 4}, {3, 8, 4}, {8, 3, 4}, {5, 6, 4}, {6, 5, 4}, {10, 16, 4}, {16, 10, 4}, {16, 15, 4}, {15, 10, -2},
            {10, 15, -2}, {1, 3, -2}, {1, 8, -2}, {7, 3, -2}, {2, 4, -2}, {4, 9, -2}, {8, 6, -2}, {3, 5, -2}, {9, 2, -2}, {2, 5, -2},
            {11, 77, -2}, {12345, 72345, 4}, {12345, 12346, 4}, {12345, 12845, 4}, {60000, 50000, 4}, {60000, 60006, 4},
            {60000, 66000, 2 + 2}, {99999, 99998, -2}, {605, 5, -2}, {601, 1, -2},
            // the least that does: changed about ahead of read as another one
            {17, 71, 3}, {71, 17, 3}, {65, 56, 3}, {56, 65, 3}, {38, 83, 3}, {60, 6, 1}, {66, 6, 1}};
        List<String> rows = rows();
        for (int[] d : due) {
            rows.add("slip(" + d[0] + ", " + d[1] + ") = " + d[2]);
            rows.add("chain(" + d[0] + ", " + d[0] + ") = 0");
            if (d[2] > 0) {
                rows.add("chain(" + d[0] + ", " + d[1] + ") = 1");
            }
            if (rows.size() > 60) {
                r.run("27: slips", rows);
                rows = rows();
            }
        }
        r.run("27: slips", rows);
    }

    /** Each digit read as each other one: as the last of three digits, and as the first. */
    private static void promise27Digits() {
        List<String> alike = List.of("17", "71", "38", "83", "56", "65", "06", "60");
        for (int d = 0; d <= 9; d++) {
            List<String> rows = rows();
            for (int e = 0; e <= 9; e++) {
                int due = d == e ? 0 : alike.contains("" + d + e) ? 4 : -2;
                rows.add("slip(90" + d + ", 90" + e + ") = " + due);
                rows.add("slip(29" + d + "42, 29" + e + "42) = " + due);
                if (d > 0 && e > 0) {
                    rows.add("slip(" + d + "94, " + e + "94) = " + due);
                }
            }
            r.run("27: " + d + " read as another one", rows);
        }
    }

    private static void promise28() {
        r.run("28: 0, 1, 2, 3, NOT", "chain(42, 42) = 0", "chain(42, 24) = 1", "chain(42, 244) = 2", "chain(42, 2244) = 3",
            "chain(42, 22244) = NOT");
        r.run("28: three left out, and four", "chain(12345, 1234) = 1", "chain(12345, 123) = 2", "chain(12345, 12) = 3",
            "chain(12345, 1) = NOT");
        r.run("28: three written twice, and four", "chain(9, 99) = 1", "chain(9, 999) = 2", "chain(9, 9999) = 3", "chain(9, 99999) = NOT",
            "chain(99999, 9) = NOT", "chain(99999, 99) = 3");
        r.run("28: one by one read as others", "chain(1111, 1117) = 1", "chain(1111, 1177) = 2", "chain(1111, 1777) = 3",
            "chain(1111, 7777) = NOT", "chain(50, 66) = 2", "chain(15, 10) = 2", "chain(5, 8) = NOT");
        r.run("28: through no number with a first 0", "chain(10, 601) = NOT", "chain(20, 602) = NOT", "chain(104, 6014) = NOT",
            "chain(105, 5) = 2", "chain(605, 5) = 2", "chain(1005, 5) = 3");
        r.run("28: through no number of six digits", "chain(20467, 60467) = NOT", "chain(60171, 10171) = NOT", "chain(12345, 11234) = 2");
    }

    private static void promise29And30() {
        r.run("29, 30: none", "undo() = STATE", "redo() = STATE", "lost() = 0", "list(0) = 1", "path(0, 0) = 0", "row(0, 0, 1) = 1",
            "put(0, 0, 1) = 1", "feed(1, 53) = 1", "undo() = STATE", "redo() = STATE");
        r.run("29, 30: one", "price(0, 11) = 10", "redo() = STATE", "undo() = 0", "undo() = STATE", "redo() = 0", "redo() = STATE",
            "price(0, 10) = 11");
        r.run("29, 30: two, the latest first", "price(0, 11) = 10", "price(1, 12) = 4", "undo() = 1", "price(1, 4) = 4", "price(0, 11) = 11",
            "undo() = 0", "redo() = 1", "redo() = 0", "redo() = STATE", "price(0, 11) = 11", "price(1, 12) = 12");
        r.run("29: a FORM, a COST, a MOTHER", "'5,a1' = 0", "lost() = 1", "form(0, 0, 9) = 1", "price(4, 99) = 8", "mother(1, 0) = -1",
            "undo() = 2", "mother(1, -1) = -1", "undo() = 1", "price(4, 8) = 8", "undo() = 0", "ofCharter(0, 10) = 1", "redo() = 2",
            "ofCharter(0, 10) = 9", "redo() = 1", "price(4, 99) = 99", "redo() = 0", "mother(1, 0) = 0", "redo() = STATE");
        r.run("29: no ring by undoing", "3 x lost()", "mother(1, 0) = -1", "mother(1, -1) = 0", "mother(0, 1) = -1", "undo() = 2",
            "mother(0, 1) = -1", "mother(1, 0) = NOT", "undo() = 2", "undo() = 1", "mother(0, 1) = NOT");
        r.run("29: one FORM changed twice", "lost() = 0", "form(0, 0, 1) = 9", "form(0, 0, 2) = 1", "undo() = 1", "ofCharter(0, 10) = 1",
            "undo() = 0", "ofCharter(0, 10) = 9", "redo() = 1", "ofCharter(0, 10) = 1", "redo() = 0", "ofCharter(0, 10) = 2");
    }

    private static void promise30Others() {
        String[] others = {"price(1, 5) = 4", "form(0, 1, 2) = 9", "mother(0, 1) = -1", "forms(0, 0, 0, 1) = 1"};
        for (String other : others) {
            r.run("30: another change came behind: " + other, "2 x lost()", "row(0, 0, 1) = 1", "price(0, 1) = 10", "price(0, 2) = 1",
                "undo() = 1", other, "count(3) = 2", "redo() = STATE", "undo() = 1", "redo() = 0", "redo() = STATE", "price(0, 1) = 1");
        }
        String[] none = {"price(1, 4) = 4", "form(0, 1, 9) = 9", "mother(0, -1) = -1", "forms(0, 1, 0, 1) = 0", "price(0, 100) = BAD",
            "form(0, 16, 1) = BAD", "mother(0, 0) = VOID", "mother(1, 2) = VOID", "lost() = 2", "'5' = 2", "list(0) = 1", "path(0, 0) = 0",
            "row(0, 0, 1) = 1", "keep(0, -1) = 1", "feed(1, 5) = 1", "charter() = -100", "act(0, 0, 0) = 0", "unlist() = 0"};
        for (String call : none) {
            r.run("30: no change came behind: " + call, "2 x lost()", "price(0, 1) = 10", "price(0, 2) = 1", "undo() = 1", call,
                "count(3) = 1", "redo() = 0", "redo() = STATE", "price(0, 2) = 2");
        }
        r.run("30: a ring that was refused is no change", "2 x lost()", "mother(1, 0) = -1", "price(0, 1) = 10", "undo() = 1",
            "mother(0, 1) = NOT", "redo() = 0");
    }

    private static void promise29Kept() {
        for (int changes : new int[] {39, 40, 41, 80}) {
            List<String> rows = rows();
            for (int i = 1; i <= changes; i++) {
                rows.add("price(0, " + (10 + i) + ") = " + (9 + i));
            }
            int kept = Math.min(40, changes);
            rows.add("count(3) = " + kept);
            for (int left = kept - 1; left >= 0; left--) {
                rows.add("undo() = " + left);
            }
            rows.add("undo() = STATE");
            rows.add("price(0, " + (10 + changes - kept) + ") = " + (10 + changes - kept));
            for (int left = kept - 1; left >= 0; left--) {
                rows.add("redo() = " + left);
            }
            rows.add("redo() = STATE");
            rows.add("count(3) = " + kept);
            rows.add("price(0, 0) = " + (10 + changes));
            rows.add("count(3) = " + Math.min(40, changes + 1));
            r.run("29: of " + changes + " changes 40 are kept", rows);
        }
        for (int changes : new int[] {40, 41, 45}) {
            keptOfAllKinds(changes);
        }
    }

    /** FORMS of sixteen clauses by turns with a COST: each undone and done again is seen in what it was. */
    private static void keptOfAllKinds(int changes) {
        List<String> rows = rows("lost() = 0");
        int[] digest = new int[changes + 1];
        int[] form = new int[16];
        java.util.Arrays.fill(form, 9);
        int cost = 8;
        digest[0] = digest(form, cost);
        for (int i = 1; i <= changes; i++) {
            int clause = i % 16;
            if (i % 5 == 0) {
                rows.add("price(4, " + (20 + i) + ") = " + cost);
                cost = 20 + i;
            } else {
                int v = (form[clause] + 1 + i) % 4;
                v = v == form[clause] ? (v + 1) % 4 : v;
                rows.add("form(0, " + clause + ", " + v + ") = " + form[clause]);
                form[clause] = v;
            }
            digest[i] = digest(form, cost);
        }
        for (int left = 39; left >= 0; left--) {
            rows.add("undo() = " + left);
            rows.add("digest() = " + digest[changes - 40 + left]);
        }
        rows.add("undo() = STATE");
        for (int left = 39; left >= 0; left--) {
            rows.add("redo() = " + left);
            rows.add("digest() = " + digest[changes - left]);
        }
        r.run("29: of " + changes + " changes of all kinds 40 are kept", rows);
    }

    private static int digest(int[] form, int cost) {
        int v = 7 * 31;
        for (int f : form) {
            v = v * 31 + f;
        }
        for (int c : new int[] {10, 4, 6, 5, cost}) {
            v = v * 31 + c;
        }
        return v;
    }

    private static void promise31() {
        int v = 7;
        for (int cost : new int[] {10, 4, 6, 5, 8}) {
            v = v * 31 + cost;
        }
        r.run("31: no charters: from 7 on, then COSTS", "digest() = " + v);
        int w = 7 * 31;
        for (int k = 0; k < 16; k++) {
            w = w * 31 + 9;
        }
        for (int cost : new int[] {10, 4, 6, 5, 8}) {
            w = w * 31 + cost;
        }
        r.run("31: one with no mother, all torn: it wraps", "lost() = 0", "digest() = " + w, "form(0, 15, 0) = 9",
            "digest() = " + (w - 9 * 28629151), "undo() = 0", "digest() = " + w, "price(4, 99) = 8", "digest() = " + (w + 91),
            "price(0, 0) = 10", "digest() = " + (w + 91 - 10 * 923521), "list(0) = 1", "path(0, 0) = 0", "feed(1, 1) = 1",
            "digest() = " + (w + 91 - 10 * 923521));
        r.run("31: MOTHER and 1", "12 x lost()", "1 x digest()", "mother(11, 10) = -1", "digest() = " + twelve(11));
        r.run("31: MOTHER 0 and 1", "12 x lost()", "mother(11, 0) = -1", "digest() = " + twelve(1));
    }

    /** Of twelve LOST ones, the last with a mother of that number less 1. */
    private static int twelve(int mother) {
        int v = 7;
        for (int c = 0; c < 12; c++) {
            v = v * 31 + (c == 11 ? mother : 0);
            for (int k = 0; k < 16; k++) {
                v = v * 31 + 9;
            }
        }
        for (int cost : new int[] {10, 4, 6, 5, 8}) {
            v = v * 31 + cost;
        }
        return v;
    }
}
