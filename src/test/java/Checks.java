/** What the tests share: due answers, and texts fed byte by byte. */
final class Checks {
    private int wrong = 0;
    private int asked = 0;

    void due(String call, long got, long want) {
        asked++;
        if (got != want) {
            wrong++;
            if (wrong <= 40) {
                System.out.println(call + " answered " + got + ", due is " + want);
            }
        }
    }

    int wrong() {
        return wrong;
    }

    void end() {
        System.out.println(wrong == 0 ? asked + " answers are as due" : wrong + " answers are not as due");
        if (wrong != 0) {
            System.exit(1);
        }
    }

    static void feedText(MotherTowns x, String text) {
        for (int i = 0; i < text.length(); i++) {
            x.feed(1, text.charAt(i));
        }
    }

    /** Feeds a text and makes a charter of it. */
    static int tell(MotherTowns x, String text) {
        feedText(x, text);
        return x.charter();
    }

    static int bits(int... numbers) {
        int all = 0;
        for (int n : numbers) {
            all |= 1 << n;
        }
        return all;
    }
}
