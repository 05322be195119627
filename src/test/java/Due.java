/** Counts and prints the answers that are not the due ones. */
final class Due {
    private static int checked = 0;
    private static int wrong = 0;

    private Due() {
    }

    static void is(String call, long got, long want) {
        checked++;
        if (got != want) {
            wrong++;
            System.out.println(call + " answered " + got + ", due is " + want);
        }
    }

    static void is(String call, boolean got, boolean want) {
        is(call, got ? 1 : 0, want ? 1 : 0);
    }

    /** Tells a text byte by byte; the score() is left to the caller. */
    static void tell(MaterialPassports x, String text) {
        for (int i = 0; i < text.length(); i++) {
            is("unit of '" + text + "'", x.unit(text.charAt(i)), true);
        }
    }

    /** Tells a text and looks at what score() answers. */
    static void score(MaterialPassports x, String text, int want) {
        tell(x, text);
        is("score() of '" + text + "'", x.score(), want);
    }

    /** An object with so many goods. */
    static MaterialPassports withGoods(int goods) {
        MaterialPassports x = new MaterialPassports();
        for (int i = 0; i < goods; i++) {
            is("good()", x.good(), i);
        }
        return x;
    }

    /** Ends the program, with 1 if an answer was wrong. */
    static void end() {
        System.out.println(wrong == 0
                ? checked + " answers are as due" : wrong + " of " + checked + " answers are not as due");
        System.exit(wrong == 0 ? 0 : 1);
    }
}
