/** Counts and prints the answers that are not the due ones. */
final class Due {
    private static String sentence = "";
    private static int checked = 0;
    private static int wrong = 0;

    private Due() {
    }

    /** The document's own words that the next answers are looked at for; " ... " stands for words left out. */
    static void sentence(String words) {
        sentence = "\"" + words + "\": ";
    }

    /** The document's own words, and in which respect the next answers are looked at for them. */
    static void sentence(String words, String respect) {
        sentence = "\"" + words + "\" (" + respect + "): ";
    }

    static void is(String call, long got, long want) {
        checked++;
        if (got != want) {
            wrong++;
            System.out.println(sentence + call + " answered " + got + ", due is " + want);
        }
    }

    static void is(String call, boolean got, boolean want) {
        is(call, got ? 1 : 0, want ? 1 : 0);
    }

    /** Tells a text byte by byte; the score() is left to the caller. */
    static void tell(MaterialPassports x, String text) {
        for (int i = 0; i < text.length(); i++) {
            is("unit of '" + text + "'", x.unit(text.charAt(i)), true);
        }
    }

    /** Tells a text and looks at what score() answers. */
    static void score(MaterialPassports x, String text, int want) {
        tell(x, text);
        is("score() of '" + text + "'", x.score(), want);
    }

    /** Tells a well formula and looks at its value for good 0. */
    static void value(MaterialPassports x, String text, long want) {
        score(x, text, text.trim().split("[ \n]+").length);
        is("scored(0) by '" + text + "'", x.scored(0), want);
    }

    /** Looks at a good's total of each kind. */
    static void totals(MaterialPassports x, int good, long... byKind) {
        for (int kind = 0; kind < byKind.length; kind++) {
            is("total(" + good + ", " + kind + ")", x.total(good, kind), byKind[kind]);
        }
    }

    /** Looks at what a person sees of a part: its kind, grams and life. */
    static void sees(MaterialPassports x, int person, int good, int k, long... byWhat) {
        for (int what = 0; what < byWhat.length; what++) {
            String call = "seen(" + person + ", " + good + ", " + k + ", " + what + ")";
            is(call, x.seen(person, good, k, what), byWhat[what]);
        }
    }

    /** Ends the program, with 1 if an answer was wrong. */
    static void end() {
        System.out.println(wrong == 0
                ? checked + " answers are as due" : wrong + " of " + checked + " answers are not as due");
        System.exit(wrong == 0 ? 0 : 1);
    }
}
