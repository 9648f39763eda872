import java.util.ArrayList;
import java.util.List;

/** Promises 1 to 9 at their boundaries: just within, at, just beyond; each run on a new object (see Runs). */
public final class BoundaryChartersTest {
    private static final String ALL_SIXTEEN = ",a0,b1,c2,d3,e?,f0,g1,h2,i3,j?,k0,l1,m2,n3,o?,p0";
    private static final Runs r = new Runs();

    public static void main(String[] args) {
        promise1();
        promise2();
        promise3Days();
        promise3Clauses();
        promise3Mothers();
        promise3Ends();
        promise3Full();
        promise4();
        promise5();
        promise6();
        promise7Numbers();
        promise7Rows();
        promise7Changes();
        promise8();
        promise9();
        r.end();
    }

    private static List<String> rows(String... some) {
        return new ArrayList<>(List.of(some));
    }

    private static void promise1() {
        r.run("1: no charters, and nothing else", "count(0) = 0", "count(1) = 0", "count(2) = 0", "count(3) = 0", "count(4) = 0",
            "count(5) = 0", "unlist() = 0", "cost(-1) = 0", "few(0) = 0", "few(20) = 0", "pairs(-1) = 0", "freed() = 0", "doubt(0) = 0",
            "doubt(1) = 0", "charter() = -100");
        r.run("1: charter 0 is not there", "ofCharter(0, 0) = BAD", "form(0, 0, 0) = BAD", "forms(0, 0, 0, 1) = BAD",
            "same(0, 0, 0) = BAD", "mother(0, -1) = VOID", "filled(0, 0) = BAD", "days(0, 2) = BAD", "list(0) = BAD", "claim(0) = BAD",
            "from(0, 0) = BAD", "law(0, 0) = BAD", "cameIn(0, 0) = BAD", "path(0, 0) = BAD");
        r.run("1: the list is empty", "best(0) = STATE", "best(3) = STATE", "tree(0, 0) = BAD", "never(0) = BAD");
        r.run("1: nothing to undo, or to do again", "undo() = STATE", "redo() = STATE");
        r.run("1: no path, no trace", "keep(0, 0) = BAD", "act(0, 0, 5) = 0", "trace(0) = BAD");
        r.run("1: the costs as at first", "price(0, 0) = 10", "price(1, 0) = 4", "price(2, 0) = 6", "price(3, 0) = 5",
            "price(4, 0) = 8");
        r.run("1: no mother at first", "2 x lost()", "mother(0, -1) = -1", "mother(1, 0) = -1");
        for (int shelf = 0; shelf <= 5; shelf++) {
            r.run("1: shelf " + shelf + " holds nothing at first", "taken(" + shelf + ", 0) = -11", "put(" + shelf + ", 0, 0) = -11",
                "element(" + shelf + ", 0) = LOWEST", "shift(" + shelf + ", 0, " + shelf + ", 0, 0) = -11");
        }
        r.run("1: one object changed in all ways ..", "'5,a1' = 0", "lost() = 1", "price(0, 0) = 10", "mother(1, 0) = -1",
            "list(0) = 1", "path(3, 0) = 0", "act(0, 3, 1) = -6", "keep(0, 0) = 1", "row(1, 0, 4) = 1", "feed(4, 0) = 4");
        r.run("1: .. is nothing to the next one", "count(0) = 0", "count(1) = 0", "count(2) = 0", "count(3) = 0", "count(4) = 0",
            "count(5) = 0", "taken(0, 0) = -11", "taken(1, 0) = -11", "price(0, 10) = 10", "digest() = 209764360");
    }

    private static void promise2() {
        r.run("2: n is 1 to 4", "feed(0, 49) = BAD", "feed(-1, 49) = BAD", "feed(1, 49) = 1", "feed(2, 49) = 3", "feed(3, 49) = 6",
            "feed(4, 49) = 10", "feed(5, 49) = BAD", "feed(MIN, 49) = BAD", "feed(MAX, 49) = BAD", "count(1) = 10");
        r.run("2: the lowest of v first, four of them", "feed(4, 0x39382d37) = 4", "charter() = 0", "ofCharter(0, 0) = 7",
            "ofCharter(0, 1) = 89");
        r.run("2: three of them", "feed(3, 0x39382d37) = 3", "charter() = 0", "ofCharter(0, 1) = 8");
        r.run("2: two of them", "feed(2, 0x39382d37) = 2", "charter() = -102");
        r.run("2: one of them", "feed(1, 0x39382d37) = 1", "charter() = 0", "ofCharter(0, 1) = 7");
        r.run("2: v below 0", "feed(3, 0-0x7fcfcecf) = 3", "charter() = 0", "ofCharter(0, 0) = 110");
        r.run("2: a byte of 255", "feed(2, 0xff31) = 2", "charter() = -101");
        r.run("2: a byte of 177 is no 1", "feed(2, 0xb131) = 2", "charter() = -101");
        r.run("2: a byte of 0", "feed(2, 0x31) = 2", "charter() = -101");
        r.run("2: 120 bytes by fours", "29 x feed(4, 0)", "feed(4, 0) = 120", "feed(1, 0) = FULL", "feed(4, 0) = FULL");
        for (int n = 1; n <= 4; n++) {
            r.run("2: " + n + " to 120", "29 x feed(4, 49)", (4 - n) + " x feed(1, 49)", "feed(" + n + ", 49) = 120",
                "feed(1, 49) = FULL");
            if (n > 1) {
                r.run("2: " + n + " to 121", "29 x feed(4, 49)", (5 - n) + " x feed(1, 49)", "feed(" + n + ", 49) = FULL",
                    "feed(" + (n - 1) + ", 49) = 120");
            }
        }
        r.run("2: BAD ahead of FULL", "30 x feed(4, 0)", "feed(0, 0) = BAD", "feed(5, 0) = BAD", "count(1) = 120");
        r.run("2: all 120 are read", "29 x feed(4, 48)", "feed(4, 49) = 120", "charter() = -101", "count(1) = 0", "feed(4, 0) = 4");
    }

    private static void promise3Days() {
        r.run("3: DAY of 1 digit", "'0' = 0", "'9' = 1", "ofCharter(0, 0) = 0", "ofCharter(0, 1) = 0", "ofCharter(1, 0) = 9",
            "ofCharter(1, 1) = 9");
        r.run("3: DAY of 2 digits", "'10' = 0", "'09' = 1", "ofCharter(0, 0) = 10", "ofCharter(1, 0) = 9");
        r.run("3: DAY of 3 digits", "'999' = 0", "'000' = 1", "'007' = 2", "ofCharter(0, 0) = 999", "ofCharter(0, 1) = 999",
            "ofCharter(1, 0) = 0", "ofCharter(2, 0) = 7");
        fault("3: DAY of no digit", "x", 0);
        fault("3: DAY of no digit", "-1", 0);
        fault("3: DAY of no digit", ",a1", 0);
        fault("3: DAY of no digit", "<0", 0);
        fault("3: DAY of 4 digits", "1234", 3);
        fault("3: DAY of 4 digits", "0000", 3);
        fault("3: just ahead of the digits", "/", 0);
        fault("3: just behind the digits", ":", 0);
        fault("3: just ahead of the digits", "1/", 1);
        fault("3: just behind the digits", "12:", 2);
        r.run("3: the second DAY is like the first", "'20-20' = 0", "'20-020' = 1", "'0-0' = 2", "'999-999' = 3",
            "ofCharter(1, 1) = 20");
        r.run("3: the second DAY is one more", "'20-21' = 0", "'998-999' = 1", "'0-1' = 2", "ofCharter(0, 0) = 20",
            "ofCharter(0, 1) = 21", "ofCharter(1, 1) = 999");
        fault("3: the second DAY is one less", "20-19", 3);
        fault("3: the second DAY is one less", "999-998", 4);
        fault("3: the second DAY is one less", "1-0", 2);
        fault("3: less by fewer digits, and the end", "20-1", 3);
        fault("3: less by fewer digits, and more", "20-1,a1", 3);
        fault("3: less by its first three digits", "20-0199", 3);
        fault("3: not less by its first three digits: the fourth", "20-0200", 6);
        fault("3: not less by its first three digits: the fourth", "20-2000", 6);
        fault("3: a third DAY", "20-20-20", 5);
        fault("3: no second DAY", "20-", 3);
        fault("3: no second DAY", "20--21", 3);
        fault("3: no second DAY", "20-,a1", 3);
        fault("3: just ahead of the digits", "20-20/", 5);
        fault("3: just ahead of the digits, and less", "20-2/", 3);
        fault("3: just behind the digits", "20-:", 3);
    }

    private static void promise3Clauses() {
        r.run("3: no CLAUSE is told", "'5' = 0", "ofCharter(0, 10) = 9", "ofCharter(0, 25) = 9");
        r.run("3: CLAUSE a to p", "'5,a1,p2' = 0", "ofCharter(0, 10) = 1", "ofCharter(0, 25) = 2", "ofCharter(0, 11) = 9",
            "ofCharter(0, 24) = 9");
        fault("3: just ahead of a", "5,`1", 2);
        fault("3: just behind p", "5,q1", 2);
        fault("3: a great letter", "5,A1", 2);
        fault("3: no letter", "5,1", 2);
        fault("3: no letter", "5,,a1", 2);
        fault("3: no comma", "5a1", 1);
        fault("3: no comma", "5,a1b1", 4);
        List<String> all = rows("'5" + ALL_SIXTEEN + "' = 0");
        int[] forms = {0, 1, 2, 3, 9};
        for (int k = 0; k < 16; k++) {
            all.add("ofCharter(0, " + (10 + k) + ") = " + forms[k % 5]);
        }
        r.run("3: all sixteen, in all FORMS", all);
        r.run("3: in any order", "'5,p1,a2,o3' = 0", "ofCharter(0, 25) = 1", "ofCharter(0, 10) = 2", "ofCharter(0, 24) = 3");
        fault("3: each once", "5,a1,a1", 5);
        fault("3: each once, torn", "5,a?,a?", 5);
        fault("3: each once, the last letter", "5,p1,o1,p2", 8);
        fault("3: each once, and the end", "5,a1,b1,a", 8);
        fault("3: a seventeenth: the letter", "5" + ALL_SIXTEEN + ",a1", 50);
        fault("3: a seventeenth: no letter", "5" + ALL_SIXTEEN + ",q1", 50);
        fault("3: a seventeenth: the end", "5" + ALL_SIXTEEN + ",", 50);
        fault("3: just ahead of FORM 0", "5,a/", 3);
        fault("3: just behind FORM 3", "5,a4", 3);
        fault("3: 9 is no FORM", "5,a9", 3);
        fault("3: just ahead of ?", "5,a>", 3);
        fault("3: just behind ?", "5,a@", 3);
        fault("3: no FORM", "5,a,b1", 3);
        fault("3: a second FORM", "5,a12", 4);
        fault("3: a second FORM", "5,a??", 4);
        fault("3: a blank ahead", " 5", 0);
        fault("3: a blank behind", "5 ", 1);
        fault("3: a blank within", "5 ,a1", 1);
        fault("3: a blank within", "5, a1", 2);
        fault("3: a blank within", "5,a 1", 3);
        fault("3: a blank at the end", "5,a1 ", 4);
        fault("3: a byte above 127", "5,a\u00b1", 3);
        fault("3: a byte above 127", "5,\u00e11", 2);
        fault("3: a byte above 127", "5\u00ac", 1);
    }

    private static void promise3Mothers() {
        fault("3: no charter to say", "5<0", 2);
        r.run("3: of one charter", "'5' = 0", "'5<0' = 1", "ofCharter(0, 2) = -1", "ofCharter(1, 2) = 0");
        r.run("3: 2 digits", "'5' = 0", "'5<00' = 1", "'5<01' = 2", "ofCharter(1, 2) = 0", "ofCharter(2, 2) = 1");
        r.run("3: one too many of one", "'5' = 0", "'5<1' = -102", "count(1) = 0", "'5<01' = -102", "'5<9' = -102", "count(0) = 1");
        r.run("3: by its first two digits", "2 x lost()", "'5<12' = -102", "'5<1' = 2", "'5<011' = -104", "'5<021' = 0-104");
        r.run("3: of ten", "10 x lost()", "'5<10' = -102", "'5<11' = -102", "'5<9' = 10", "ofCharter(10, 2) = 9");
        r.run("3: of eleven", "11 x lost()", "'5<11' = -102", "'5<110' = -102", "'5<99' = -102", "'5<100' = -104", "'5<10' = 11",
            "ofCharter(11, 2) = 10");
        r.run("3: behind CLAUSES and DAYS", "lost() = 0", "'5-6,a1<0' = 1", "ofCharter(1, 2) = 0", "ofCharter(1, 10) = 1",
            "'5<0,a1' = -103", "'5<0<0' = -103", "'5<0-6' = -103", "'5<' = -102", "'5<<0' = -102", "'5<x' = -102", "'5</' = -102",
            "'5<:' = -102", "'5<0/' = -103", "'5<0:' = -103", "'5<000' = -104", "'5< 0' = -102", "'5<0 ' = -103", "'5,a1<2' = -105",
            "'5=0' = -101", "'5;0' = -101", "count(0) = 2");
        r.run("3: a LOST one can be said", "lost() = 0", "'0<0' = 1", "ofCharter(1, 2) = 0");
    }

    private static void promise3Ends() {
        fault("3: it ends too early: at once", "", 0);
        fault("3: it ends too early: behind -", "5-", 2);
        fault("3: it ends too early: behind - of three digits", "555-", 4);
        fault("3: it ends too early: behind a comma", "5,", 2);
        fault("3: it ends too early: behind a letter", "5,a", 3);
        fault("3: it ends too early: behind a later comma", "5-6,a1,", 7);
        fault("3: it ends too early: behind a later letter", "5-6,a1,b", 8);
        fault("3: it ends too early: behind <", "5<", 2);
        r.run("3: behind a fault THE TAPE is empty", "feed(1, 120) = 1", "charter() = -100", "count(1) = 0", "'5' = 0",
            "count(1) = 0");
        r.run("3: behind a charter THE TAPE is empty", "feed(1, 53) = 1", "charter() = 0", "count(1) = 0", "charter() = -100");
        r.run("3: a fault leaves nothing to the next one", "'5-6,a1,b2,x' = -110", "'7' = 0", "ofCharter(0, 0) = 7",
            "ofCharter(0, 1) = 7", "ofCharter(0, 2) = -1", "ofCharter(0, 10) = 9", "ofCharter(0, 11) = 9");
        r.run("3: a charter leaves nothing to the next one", "'5-9,a1' = 0", "'6<0' = 1", "'7' = 2", "ofCharter(1, 1) = 6",
            "ofCharter(1, 10) = 9", "ofCharter(2, 2) = -1", "ofCharter(0, 10) = 1", "ofCharter(0, 2) = -1");
        r.run("3: no change, no mother", "'5' = 0", "'6<0' = 1", "count(3) = 0", "mother(1, -1) = -1");
    }

    private static void promise3Full() {
        r.run("3: the twelfth, and no thirteenth", "11 x lost()", "'5' = 11", "feed(1, 53) = 1", "charter() = FULL", "count(1) = 1",
            "count(0) = 12", "ofCharter(11, 0) = 5");
        r.run("3: FULL ahead of a fault", "12 x lost()", "charter() = FULL", "feed(1, 120) = 1", "charter() = FULL",
            "feed(1, 120) = 2");
        r.run("3: the numbers", "'5' = 0", "'5' = 1", "'5' = 2", "'5' = 3", "'5' = 4", "'5' = 5", "'5' = 6", "'5' = 7", "'5' = 8",
            "'5' = 9", "'5' = 10", "'5' = 11", "feed(4, 0x35353535) = 4", "charter() = FULL");
    }

    private static void promise4() {
        List<String> twelve = rows();
        for (int i = 0; i < 12; i++) {
            twelve.add("lost() = " + i);
        }
        twelve.add("lost() = FULL");
        twelve.add("count(0) = 12");
        r.run("4: twelve, and no thirteenth", twelve);
        r.run("4: the twelfth behind a text", "10 x lost()", "'5' = 10", "lost() = 11", "lost() = FULL");
        List<String> torn = rows("lost() = 0", "ofCharter(0, 0) = 0", "ofCharter(0, 1) = 999", "ofCharter(0, 2) = -1",
            "ofCharter(0, 3) = 1", "mother(0, -1) = -1", "count(3) = 0");
        for (int k = 0; k < 16; k++) {
            torn.add("ofCharter(0, " + (10 + k) + ") = 9");
        }
        r.run("4: all is torn, DAYS 0 to 999", torn);
        r.run("4: THE TAPE stays", "feed(2, 0x3535) = 2", "lost() = 0", "count(1) = 2", "charter() = 1", "ofCharter(1, 0) = 55",
            "ofCharter(1, 3) = 0");
    }

    private static void promise5() {
        r.run("5: what", "'5-8,a1,p2' = 0", "'9<0' = 1", "ofCharter(1, -1) = BAD", "ofCharter(1, 0) = 9", "ofCharter(0, 1) = 8",
            "ofCharter(0, 2) = -1", "ofCharter(1, 2) = 0", "ofCharter(1, 3) = 0", "ofCharter(0, 4) = BAD", "ofCharter(0, 5) = BAD",
            "ofCharter(0, 9) = BAD", "ofCharter(0, 10) = 1", "ofCharter(0, 11) = 9", "ofCharter(0, 25) = 2", "ofCharter(0, 26) = BAD",
            "ofCharter(0, MAX) = BAD", "ofCharter(0, MIN) = BAD");
        r.run("5: the first charter and the last", "ofCharter(0, 0) = BAD", "'5' = 0", "ofCharter(-1, 0) = BAD",
            "ofCharter(0, 0) = 5", "ofCharter(1, 0) = BAD", "'6' = 1", "ofCharter(1, 0) = 6", "ofCharter(2, 0) = BAD",
            "ofCharter(MAX, 0) = BAD", "ofCharter(MIN, 0) = BAD");
        r.run("5: of twelve", "12 x lost()", "ofCharter(11, 1) = 999", "ofCharter(12, 1) = BAD", "ofCharter(12, 25) = BAD");
    }

    private static void promise6() {
        r.run("6: v", "lost() = 0", "form(0, 0, -1) = BAD", "form(0, 0, 0) = 9", "form(0, 0, 1) = 0", "form(0, 0, 2) = 1",
            "form(0, 0, 3) = 2", "form(0, 0, 4) = BAD", "form(0, 0, 8) = BAD", "form(0, 0, 9) = 3", "form(0, 0, 10) = BAD",
            "form(0, 0, MIN) = BAD", "form(0, 0, MAX) = BAD", "ofCharter(0, 10) = 9", "count(3) = 5");
        r.run("6: the first clause and the last", "2 x lost()", "form(0, -1, 1) = BAD", "form(0, 0, 1) = 9", "form(0, 15, 2) = 9",
            "form(0, 16, 3) = BAD", "form(0, MIN, 3) = BAD", "form(0, MAX, 3) = BAD", "ofCharter(0, 10) = 1", "ofCharter(0, 25) = 2",
            "ofCharter(1, 10) = 9", "ofCharter(1, 25) = 9");
        r.run("6: the first charter and the last", "2 x lost()", "form(-1, 0, 1) = BAD", "form(0, 0, 1) = 9", "form(1, 0, 2) = 9",
            "form(2, 0, 3) = BAD", "form(MIN, 0, 3) = BAD", "form(MAX, 0, 3) = BAD", "ofCharter(0, 10) = 1", "ofCharter(1, 10) = 2");
        r.run("6: of twelve", "12 x lost()", "form(11, 15, 1) = 9", "form(12, 15, 1) = BAD", "ofCharter(11, 25) = 1",
            "ofCharter(10, 25) = 9");
        r.run("6: to what it is: no change", "'5,a1' = 0", "form(0, 0, 1) = 1", "form(0, 1, 9) = 9", "count(3) = 0",
            "undo() = STATE");
    }

    private static void promise7Numbers() {
        r.run("7: n is 1 to 16", "lost() = 0", "row(0, 0, 60) = 1", "forms(0, 0, 0, -1) = BAD", "forms(0, 0, 0, 0) = BAD",
            "forms(0, 0, 0, 1) = 1", "ofCharter(0, 10) = 0", "ofCharter(0, 11) = 9", "forms(0, 0, 0, 16) = 16",
            "ofCharter(0, 25) = 0", "forms(0, 0, 0, 17) = BAD", "forms(0, 0, 0, MIN) = BAD", "forms(0, 0, 0, MAX) = BAD");
        r.run("7: fifteen", "lost() = 0", "row(0, 0, 60) = 1", "forms(0, 0, 0, 15) = 15", "ofCharter(0, 24) = 0",
            "ofCharter(0, 25) = 9");
        r.run("7: the first shelf and the last", "lost() = 0", "row(0, 0, 1) = 1", "row(5, 0, 1) = 1", "forms(0, -1, 0, 1) = BAD",
            "forms(0, 0, 0, 1) = 1", "forms(0, 5, 0, 1) = 1", "forms(0, 6, 0, 1) = BAD", "forms(0, MAX, 0, 1) = BAD");
        r.run("7: the first charter and the last", "2 x lost()", "row(0, 0, 1) = 1", "forms(-1, 0, 0, 1) = BAD",
            "forms(1, 0, 0, 1) = 1", "ofCharter(0, 10) = 9", "ofCharter(1, 10) = 0", "forms(0, 0, 0, 1) = 1",
            "forms(2, 0, 0, 1) = BAD");
        r.run("7: BAD ahead of -12", "lost() = 0", "row(0, 1, 9) = 1", "forms(0, 0, 0, 0) = BAD", "forms(0, 0, 0, 17) = BAD",
            "forms(1, 0, 0, 1) = BAD", "forms(0, 0, 0, 1) = -12");
        r.run("7: BAD of a shelf that holds nothing", "lost() = 0", "forms(0, 0, 0, 0) = BAD", "forms(0, 0, 0, 17) = BAD",
            "forms(1, 0, 0, 1) = BAD", "forms(0, 0, 0, 1) = 0");
    }

    private static void promise7Rows() {
        r.run("7: a shelf that holds nothing is missing", "lost() = 0", "forms(0, 3, 0, 16) = 0", "count(3) = 0");
        r.run("7: a shelf that holds nothing again", "lost() = 0", "row(0, 0, 9) = 1", "keep(0, -1) = 1", "forms(0, 0, 0, 9) = 0",
            "count(3) = 0");
        r.run("7: no row of bytes", "lost() = 0", "row(1, 1, 9) = 1", "row(2, 2, 9) = 1", "row(3, 3, 9) = 1", "row(4, 4, 9) = 1",
            "forms(0, 1, 0, 1) = -12", "forms(0, 2, 0, 1) = -12", "forms(0, 3, 0, 1) = -12", "forms(0, 4, 0, 1) = -12");
        r.run("7: a path", "lost() = 0", "path(0, 0) = 0", "keep(0, 0) = 1", "forms(0, 0, 0, 1) = -12");
        r.run("7: -12 wherever it begins", "lost() = 0", "row(1, 1, 9) = 1", "forms(0, 1, -1, 1) = -12", "forms(0, 1, 9, 1) = -12");
        r.run("7: an empty row", "lost() = 0", "row(0, 0, 0) = 1", "forms(0, 0, 0, 1) = 0", "count(3) = 0");
        r.run("7: from the last place on", "lost() = 0", "row(0, 0, 60) = 1", "forms(0, 0, 59, 1) = 1", "forms(0, 0, 59, 2) = 1",
            "forms(0, 0, 60, 1) = 0", "forms(0, 0, MAX, 1) = 0", "forms(0, 0, MAX, 16) = 0", "ofCharter(0, 10) = 0",
            "ofCharter(0, 11) = 9", "count(3) = 1");
        r.run("7: the row ends just behind the last, and just ahead of it", "lost() = 0", "row(0, 0, 60) = 1",
            "forms(0, 0, 44, 16) = 16", "forms(0, 0, 45, 16) = 15");
        r.run("7: ahead of the row", "lost() = 0", "row(0, 0, 60) = 1", "forms(0, 0, -1, 1) = 0", "forms(0, 0, -1, 16) = 0",
            "forms(0, 0, MIN, 16) = 0", "count(3) = 0", "forms(0, 0, 0, 1) = 1");
        int[][] taken = {{-1, 0}, {0, 1}, {1, 1}, {2, 1}, {3, 1}, {4, 0}, {8, 0}, {9, 1}, {10, 0}, {127, 0}, {-128, 0}, {256 + 3, 1},
            {256 + 9, 1}, {256 + 4, 0}};
        for (int[] t : taken) {
            boolean was = t[1] == 1;
            r.run("7: an element of " + t[0], "'5,a1,b1' = 0", "row(0, 0, 3) = 1", "put(0, 1, " + t[0] + ") = 1",
                "forms(0, 0, 1, 1) = " + t[1], "ofCharter(0, 10) = " + (was ? t[0] & 255 : 1), "ofCharter(0, 11) = 1");
            r.run("7: a second element of " + t[0] + ": those ahead are taken", "'5,a1,b1,c1' = 0", "row(0, 0, 3) = 1",
                "put(0, 1, " + t[0] + ") = 1", "forms(0, 0, 0, 3) = " + (was ? 3 : 1), "ofCharter(0, 10) = 0",
                "ofCharter(0, 11) = " + (was ? t[0] & 255 : 1), "ofCharter(0, 12) = " + (was ? 0 : 1));
        }
        r.run("7: a later place begins at a all the same", "lost() = 0", "row(0, 0, 5) = 1", "put(0, 3, 2) = 1", "put(0, 4, 3) = 1",
            "forms(0, 0, 3, 2) = 2", "ofCharter(0, 10) = 2", "ofCharter(0, 11) = 3", "ofCharter(0, 13) = 9");
    }

    private static void promise7Changes() {
        r.run("7: each that is another one is a change", "'5,a0,b1,c?' = 0", "row(0, 0, 4) = 1", "put(0, 1, 1) = 1",
            "put(0, 2, 9) = 1", "put(0, 3, 3) = 1", "forms(0, 0, 0, 4) = 4", "count(3) = 1", "undo() = 0", "ofCharter(0, 13) = 9",
            "redo() = 0", "ofCharter(0, 13) = 3");
        r.run("7: none is another one: what was undone can be done again", "'5,a0,b0' = 0", "row(0, 0, 2) = 1", "price(0, 1) = 10",
            "undo() = 0", "forms(0, 0, 0, 2) = 2", "redo() = 0", "price(0, 1) = 1");
        r.run("7: one is another one: no more", "'5,a0,b1' = 0", "row(0, 0, 2) = 1", "price(0, 1) = 10", "undo() = 0",
            "forms(0, 0, 0, 2) = 2", "redo() = STATE", "price(0, 10) = 10");
        r.run("7: sixteen changes one by one", "lost() = 0", "row(0, 0, 16) = 1", "forms(0, 0, 0, 16) = 16", "count(3) = 16",
            "undo() = 15", "ofCharter(0, 25) = 9", "ofCharter(0, 24) = 0", "14 x undo()", "undo() = 0", "ofCharter(0, 10) = 9",
            "undo() = STATE");
        r.run("7: more than 40 kept", "3 x lost()", "row(0, 0, 16) = 1", "forms(0, 0, 0, 16) = 16", "forms(1, 0, 0, 16) = 16",
            "forms(2, 0, 0, 16) = 16", "count(3) = 40", "39 x undo()", "undo() = 0", "undo() = STATE", "ofCharter(0, 17) = 0",
            "ofCharter(0, 18) = 9");
    }

    private static void promise8() {
        r.run("8: which", "price(-1, 1) = BAD", "price(0, 1) = 10", "price(4, 1) = 8", "price(5, 1) = BAD", "price(MIN, 1) = BAD",
            "price(MAX, 1) = BAD", "count(3) = 2");
        for (int which = 0; which < 5; which++) {
            String call = "price(" + which + ", ";
            r.run("8: v of " + which, "1 x " + call + "50)", call + "-1) = BAD", call + "0) = 50", call + "99) = 0", call + "100) = BAD",
                call + "MIN) = BAD", call + "MAX) = BAD", call + "50) = 99", "count(3) = 4");
        }
        r.run("8: each its own", "price(0, 1) = 10", "price(1, 2) = 4", "price(2, 3) = 6", "price(3, 4) = 5", "price(4, 5) = 8",
            "price(0, 0) = 1", "price(1, 0) = 2", "price(2, 0) = 3", "price(3, 0) = 4", "price(4, 0) = 5");
        r.run("8: to what it is: no change", "price(0, 10) = 10", "price(4, 8) = 8", "count(3) = 0", "undo() = STATE");
    }

    private static void promise9() {
        r.run("9: what", "'5,a1,b1' = 0", "'5,a1,b2' = 1", "same(0, 1, -1) = BAD", "same(0, 1, 0) = 1", "same(0, 1, 1) = 2",
            "same(0, 1, 2) = 0xfffc", "same(0, 1, 3) = BAD", "same(0, 1, MIN) = BAD", "same(0, 1, MAX) = BAD");
        r.run("9: the first charter and the last", "2 x lost()", "same(-1, 0, 2) = BAD", "same(0, -1, 2) = BAD",
            "same(0, 1, 2) = 0xffff", "same(1, 0, 2) = 0xffff", "same(0, 2, 2) = BAD", "same(2, 0, 2) = BAD", "same(2, 2, 2) = BAD");
        r.run("9: the last clause", "'5,p3' = 0", "'5,p3' = 1", "same(0, 1, 0) = 0x8000", "form(1, 15, 2) = 3",
            "same(0, 1, 1) = 0x8000", "same(0, 1, 2) = 0x7fff");
        r.run("9: torn in one, in the other, in both", "'5,a1,c?' = 0", "'5,b1,c?' = 1", "same(0, 1, 0) = 0", "same(0, 1, 1) = 0",
            "same(0, 1, 2) = 0xffff");
        r.run("9: absent in both, in one", "'5,a0,b0' = 0", "'5,a0,b1' = 1", "same(0, 1, 0) = 1", "same(0, 1, 1) = 2",
            "same(1, 0, 1) = 2");
        r.run("9: of itself", "'5,a0,b3,c?' = 0", "same(0, 0, 0) = 3", "same(0, 0, 1) = 0", "same(0, 0, 2) = 0xfffc");
    }

    /** The fault on a new object, and behind two charters: the tape is empty, and nothing has changed. */
    private static void fault(String name, String text, int place) {
        r.run(name, "'" + text + "' = -100-" + place, "count(1) = 0", "count(0) = 0");
        if (!text.contains("<")) {
            r.run(name + ", behind two", "'5,a1' = 0", "lost() = 1", "price(0, 3) = 10", "'" + text + "' = -100-" + place,
                "count(1) = 0", "count(0) = 2");
        }
    }
}
