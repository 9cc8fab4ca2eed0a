/**
 * What the tests share: they count the answers that are not as due, and write words as digits, as
 * in "123". No test looks at what an object answers after its 512th call, since that is free.
 */
abstract class Bench {
    // Written out, so that a wrong constant of the class is not taken for right.
    static final int BAD_LETTER = -1;
    static final int FULL = -2;
    static final int BAD_WORD = -3;
    static final int BAD_PART = -4;
    static final int BAD_FLAG = -5;
    static final int NONE = -6;

    static final int STRIP = 0;
    static final int APPEND = 1;
    static final int CONDITION = 2;
    static final boolean SUFFIX = true;
    static final boolean PREFIX = false;
    static final boolean CROSS = true;
    static final boolean ALONE = false;

    static int wrong = 0;
    static int begun = 0;
    static String place = "";

    /** Begins the test of one sentence of the document, with a new object. */
    static AffixSpeller begin(String where, String sentence) {
        begun++;
        place = where + ", \"" + sentence + "\"";
        return new AffixSpeller();
    }

    static void due(String what, int got, int want) {
        if (got != want) {
            wrong++;
            System.out.println(place + ": " + what + " answered " + got + ", due is " + want);
        }
    }

    static void spell(AffixSpeller x, String word) {
        x.erase();
        for (int i = 0; i < word.length(); i++) {
            x.type(word.charAt(i) - '0');
        }
    }

    static int addStem(AffixSpeller x, String word, int flags) {
        spell(x, word);
        return x.stem(flags);
    }

    static int keepWord(AffixSpeller x, String word, int part) {
        spell(x, word);
        return x.keep(part);
    }

    /** Keeps three parts, written as "strip/append/condition". */
    static void keepParts(AffixSpeller x, String parts) {
        String[] part = parts.split("/", -1);
        keepWord(x, part[0], STRIP);
        keepWord(x, part[1], APPEND);
        keepWord(x, part[2], CONDITION);
    }

    static int addRule(AffixSpeller x, String parts, int flag, boolean suffix, boolean cross) {
        keepParts(x, parts);
        return x.rule(flag, suffix, cross);
    }

    /** Asks for the whole list of derivations of a word, as in "0:-:1 2:3:-" (stem:suffix:prefix). */
    static void dueList(AffixSpeller x, String word, String want) {
        spell(x, word);
        dueListOfBuffer(x, word, want);
    }

    static void dueListOfBuffer(AffixSpeller x, String word, String want) {
        StringBuilder got = new StringBuilder();
        int count = x.derivations();
        for (int n = 0; n < count; n++) {
            got.append(n == 0 ? "" : " ").append(name(x.stemOf(n))).append(':');
            got.append(name(x.suffixOf(n))).append(':').append(name(x.prefixOf(n)));
        }
        if (!got.toString().equals(want)) {
            wrong++;
            System.out.println(place + ": " + word + " has [" + got + "], due is [" + want + "]");
        }
        dueNothingAt(x, word, count);
        dueNothingAt(x, word, -1);
        due("length after questions", x.length(), word.length());
    }

    static void dueNothingAt(AffixSpeller x, String word, int n) {
        due(word + " stemOf(" + n + ")", x.stemOf(n), NONE);
        due(word + " suffixOf(" + n + ")", x.suffixOf(n), NONE);
        due(word + " prefixOf(" + n + ")", x.prefixOf(n), NONE);
    }

    private static String name(int number) {
        return number == NONE ? "-" : Integer.toString(number);
    }

    static void dueContinuations(AffixSpeller x, String word, int want) {
        spell(x, word);
        due(word + " continuations", x.continuations(), want);
        due("length after continuations", x.length(), word.length());
    }

    static void finish(String allWell) {
        System.out.println(wrong == 0 ? allWell : wrong + " answers are not as due");
        if (wrong != 0) {
            System.exit(1);
        }
    }
}
