/** A test for each boundary case that promises 8 to 13 name, under the document's words. */
public final class BoundaryQuestionsTest extends Bench {
    private static final int LEAST = Integer.MIN_VALUE;
    private static final int MOST = Integer.MAX_VALUE;
    private static final String TWELVE = "123456781234";
    private static final String HOW_MANY_LETTERS =
        "How many letters 1 to 8 can be put behind x so that the longer word has a derivation";

    /** Twelve stems with six suffix choices and six prefix choices each: no word can have more. */
    private static AffixSpeller withMostDerivations(AffixSpeller x) {
        for (int r = 0; r < 10; r++) {
            x.rule(r % 8, r % 2 == 0, CROSS);
        }
        for (int s = 0; s < 12; s++) {
            addStem(x, "12", 255);
        }
        spell(x, "12");
        return x;
    }

    /** The word 12 has three derivations: the stem alone, with the prefix rule, with the suffix rule. */
    private static AffixSpeller withThreeDerivations(AffixSpeller x) {
        addStem(x, "12", 1);
        x.rule(0, SUFFIX, ALONE);
        x.rule(0, PREFIX, ALONE);
        spell(x, "12");
        return x;
    }

    // Promise 8

    private static void lengthOfAnEmptyBuffer() {
        AffixSpeller x = begin("Promise 8", "The buffer's length.");
        due("length of a new object", x.length(), 0);
        spell(x, "12");
        x.erase();
        due("length after erase", x.length(), 0);
        addStem(x, "12", 0);
        due("length after stem", x.length(), 0);
        keepWord(x, "12", APPEND);
        due("length after keep", x.length(), 0);
    }

    private static void lengthUpToTwelve() {
        AffixSpeller x = begin("Promise 8", "The buffer's length.");
        for (int n = 1; n <= 12; n++) {
            x.type(n % 9 + 1);
            due("length after letter " + n, x.length(), n);
        }
        x.type(1);
        due("length after a refused letter", x.length(), 12);
    }

    private static void lengthAfterRefusedCalls() {
        AffixSpeller x = begin("Promise 8", "The buffer's length.");
        spell(x, "1239");
        x.type(0);
        x.keep(STRIP);
        x.keep(3);
        x.stem(0);
        x.rule(8, SUFFIX, CROSS);
        x.reflag(0, 0);
        due("length", x.length(), 4);
    }

    // Promise 9

    private static void noDerivations() {
        AffixSpeller x = begin("Promise 9", "How many derivations x has.");
        due("derivations of a new object", x.derivations(), 0);
        spell(x, "1");
        due("derivations without stems", x.derivations(), 0);
        x.rule(0, SUFFIX, CROSS);
        due("derivations without stems", x.derivations(), 0);
        addStem(x, "12", 1);
        for (String word : new String[] {"1", "2", "21", "121", "112", "11"}) {
            spell(x, word);
            due("derivations of " + word, x.derivations(), 0);
        }
    }

    private static void mostDerivations() {
        AffixSpeller x = withMostDerivations(begin("Promise 9", "How many derivations x has."));
        due("derivations", x.derivations(), 12 * 6 * 6);
        spell(x, "1");
        due("derivations", x.derivations(), 0);
    }

    // Promise 10

    private static void firstAndLastStemOf() {
        AffixSpeller x = withMostDerivations(begin("Promise 10", "the stem of derivation n, n from 0"));
        due("stemOf(0)", x.stemOf(0), 0);
        for (int s = 1; s < 12; s++) {
            due("stemOf(" + (36 * s - 1) + ")", x.stemOf(36 * s - 1), s - 1);
            due("stemOf(" + 36 * s + ")", x.stemOf(36 * s), s);
        }
        due("stemOf(431)", x.stemOf(431), 11);
        due("stemOf(432)", x.stemOf(432), NONE);
    }

    private static void stemOfNoDerivation() {
        AffixSpeller x = begin("Promise 10", "NONE if there is none");
        due("stemOf(0) of a new object", x.stemOf(0), NONE);
        withThreeDerivations(x);
        due("stemOf(2)", x.stemOf(2), 0);
        for (int n : new int[] {3, 4, -1, -3, LEAST, MOST, 256, 65536}) {
            due("stemOf(" + n + ")", x.stemOf(n), NONE);
        }
        for (String word : new String[] {"", "1", "9", "19", "92"}) {
            spell(x, word);
            due("stemOf(0) of [" + word + "]", x.stemOf(0), NONE);
        }
    }

    private static void noneComesBeforeNumberZero() {
        AffixSpeller x = begin("Promise 10", "smaller numbers first and none before all numbers");
        dueListOfBuffer(withThreeDerivations(x), "12", "0:-:- 0:-:1 0:0:-");
        AffixSpeller y = new AffixSpeller();
        addStem(y, "12", 1);
        y.rule(0, PREFIX, CROSS);
        y.rule(0, SUFFIX, CROSS);
        dueList(y, "12", "0:-:- 0:-:0 0:1:- 0:1:0");
    }

    private static void orderIsByStemThenSuffixThenPrefix() {
        AffixSpeller x = begin("Promise 10", "ordered by stem, then by suffix rule, then by prefix rule");
        x.rule(0, PREFIX, CROSS);
        x.rule(0, SUFFIX, CROSS);
        x.rule(0, PREFIX, CROSS);
        x.rule(0, SUFFIX, CROSS);
        addStem(x, "1", 1);
        addStem(x, "1", 0);
        addStem(x, "1", 1);
        dueList(x, "1", "0:-:- 0:-:0 0:-:2 0:1:- 0:1:0 0:1:2 0:3:- 0:3:0 0:3:2 1:-:-"
            + " 2:-:- 2:-:0 2:-:2 2:1:- 2:1:0 2:1:2 2:3:- 2:3:0 2:3:2");
    }

    // Promise 11

    private static void suffixOfFirstAndLastRule() {
        AffixSpeller x = begin("Promise 11", "The suffix rule of that derivation");
        addStem(x, "1", 255);
        for (int r = 0; r < 10; r++) {
            addRule(x, r == 0 ? "/2/" : r == 9 ? "/3/" : "/4/", 0, SUFFIX, ALONE);
        }
        spell(x, "12");
        due("suffixOf(0) of 12", x.suffixOf(0), 0);
        spell(x, "13");
        due("suffixOf(0) of 13", x.suffixOf(0), 9);
    }

    private static void suffixOfADerivationWithoutOne() {
        AffixSpeller x = withThreeDerivations(begin("Promise 11", "NONE if it has none"));
        due("suffixOf(0)", x.suffixOf(0), NONE);
        due("suffixOf(1)", x.suffixOf(1), NONE);
        due("suffixOf(2)", x.suffixOf(2), 0);
    }

    private static void suffixOfNoDerivation() {
        AffixSpeller x = begin("Promise 11", "or if there is no such derivation");
        due("suffixOf(0) of a new object", x.suffixOf(0), NONE);
        withThreeDerivations(x);
        for (int n : new int[] {3, 4, -1, -3, LEAST, MOST, 256 + 2, 65536 + 2}) {
            due("suffixOf(" + n + ")", x.suffixOf(n), NONE);
        }
        addRule(x, "/3/", 0, SUFFIX, ALONE);
        spell(x, "123");
        due("suffixOf(0) of 123", x.suffixOf(0), 2);
        for (String word : new String[] {"", "13", "9", "193", "129"}) {
            spell(x, word);
            due("suffixOf(0) of [" + word + "]", x.suffixOf(0), NONE);
        }
        AffixSpeller y = withMostDerivations(new AffixSpeller());
        due("suffixOf(431)", y.suffixOf(431), 8);
        due("suffixOf(432)", y.suffixOf(432), NONE);
    }

    // Promise 12

    private static void prefixOfFirstAndLastRule() {
        AffixSpeller x = begin("Promise 12", "The prefix rule of that derivation");
        addStem(x, "1", 255);
        for (int r = 0; r < 10; r++) {
            addRule(x, r == 0 ? "/2/" : r == 9 ? "/3/" : "/4/", 0, PREFIX, ALONE);
        }
        spell(x, "21");
        due("prefixOf(0) of 21", x.prefixOf(0), 0);
        spell(x, "31");
        due("prefixOf(0) of 31", x.prefixOf(0), 9);
    }

    private static void prefixOfADerivationWithoutOne() {
        AffixSpeller x = withThreeDerivations(begin("Promise 12", "NONE if it has none"));
        due("prefixOf(0)", x.prefixOf(0), NONE);
        due("prefixOf(1)", x.prefixOf(1), 1);
        due("prefixOf(2)", x.prefixOf(2), NONE);
    }

    private static void prefixOfNoDerivation() {
        AffixSpeller x = begin("Promise 12", "or if there is no such derivation");
        due("prefixOf(0) of a new object", x.prefixOf(0), NONE);
        withThreeDerivations(x);
        for (int n : new int[] {3, 4, -1, -2, LEAST, MOST, 256 + 1, 65536 + 1}) {
            due("prefixOf(" + n + ")", x.prefixOf(n), NONE);
        }
        addRule(x, "/3/", 0, PREFIX, ALONE);
        spell(x, "312");
        due("prefixOf(0) of 312", x.prefixOf(0), 2);
        for (String word : new String[] {"", "31", "9", "912", "319"}) {
            spell(x, word);
            due("prefixOf(0) of [" + word + "]", x.prefixOf(0), NONE);
        }
        AffixSpeller y = withMostDerivations(new AffixSpeller());
        due("prefixOf(431)", y.prefixOf(431), 9);
        due("prefixOf(432)", y.prefixOf(432), NONE);
    }

    // Promise 13

    private static void continuationsFromNoneToEight() {
        AffixSpeller x = begin("Promise 13", HOW_MANY_LETTERS);
        addStem(x, "7", 0);
        dueContinuations(x, "7", 0);
        for (int letter = 1; letter <= 8; letter++) {
            addStem(x, "7" + letter, 0);
            dueContinuations(x, "7", letter);
        }
        dueContinuations(x, "8", 0);
        dueContinuations(x, "77", 0);
    }

    private static void eachLetterCountsOnce() {
        AffixSpeller x = begin("Promise 13", HOW_MANY_LETTERS);
        addStem(x, "12", 1);
        addStem(x, "12", 1);
        x.rule(0, SUFFIX, CROSS);
        x.rule(0, PREFIX, CROSS);
        dueContinuations(x, "1", 1);
        addStem(x, "18", 1);
        dueContinuations(x, "1", 2);
        addStem(x, "1345", 1);
        dueContinuations(x, "1", 2);
    }

    private static void continuationsByRules() {
        AffixSpeller x = begin("Promise 13", HOW_MANY_LETTERS);
        addStem(x, "1", 1);
        addRule(x, "/8/", 0, SUFFIX, CROSS);
        addRule(x, "1/67/", 0, SUFFIX, CROSS);
        addRule(x, "/3/", 0, PREFIX, CROSS);
        dueContinuations(x, "1", 1);
        dueContinuations(x, "3", 1);
        dueContinuations(x, "31", 1);
        dueContinuations(x, "36", 1);
        dueContinuations(x, "6", 1);
        dueContinuations(x, "", 1);
        x.reflag(0, 0);
        dueContinuations(x, "1", 0);
        dueContinuations(x, "", 1);
    }

    private static void continuationsOfTwelveLetters() {
        AffixSpeller x = begin("Promise 13", "0 if x has 12 letters or a 9");
        addStem(x, TWELVE, 1);
        addRule(x, "/5/", 0, SUFFIX, ALONE);
        dueContinuations(x, "12345678123", 1);
        dueContinuations(x, TWELVE, 0);
        due("derivations afterwards", x.derivations(), 1);
        dueContinuations(x, "222222222222", 0);
        dueContinuations(x, "999999999999", 0);
    }

    private static void continuationsOfAWordWithANine() {
        AffixSpeller x = begin("Promise 13", "0 if x has 12 letters or a 9");
        addStem(x, "11", 1);
        addStem(x, "111", 1);
        addStem(x, TWELVE, 1);
        addRule(x, "//9", 0, SUFFIX, ALONE);
        for (String word : new String[] {"9", "19", "91", "99", "92345678123", "12345678129"}) {
            dueContinuations(x, word, 0);
        }
        dueContinuations(x, "1", 1);
        dueContinuations(x, "11", 1);
    }

    private static void continuationsOfAnEmptyWord() {
        AffixSpeller x = begin("Promise 13", "(x may be empty here.)");
        due("continuations of a new object", x.continuations(), 0);
        addStem(x, "12", 0);
        due("continuations", x.continuations(), 0);
        for (int letter = 1; letter <= 8; letter++) {
            addStem(x, "" + letter, 0);
            due("continuations with " + letter + " short stems", x.continuations(), letter);
            due("length", x.length(), 0);
        }
    }

    private static void continuationsLeaveTheBufferAsItIs() {
        AffixSpeller x = begin("Terms", "The calls below change nothing.");
        addStem(x, "12345678123", 0);
        addStem(x, TWELVE, 0);
        for (String word : new String[] {"12345678123", TWELVE}) {
            spell(x, word);
            x.continuations();
            dueListOfBuffer(x, word, (word.length() - 11) + ":-:-");
        }
        spell(x, "12345678123");
        x.continuations();
        due("the next letter", x.type(4), 12);
        dueListOfBuffer(x, TWELVE, "1:-:-");
        x.erase();
        x.continuations();
        due("stem of no letters", x.stem(0), BAD_WORD);
    }

    public static void main(String[] args) {
        lengthOfAnEmptyBuffer();
        lengthUpToTwelve();
        lengthAfterRefusedCalls();
        noDerivations();
        mostDerivations();
        firstAndLastStemOf();
        stemOfNoDerivation();
        noneComesBeforeNumberZero();
        orderIsByStemThenSuffixThenPrefix();
        suffixOfFirstAndLastRule();
        suffixOfADerivationWithoutOne();
        suffixOfNoDerivation();
        prefixOfFirstAndLastRule();
        prefixOfADerivationWithoutOne();
        prefixOfNoDerivation();
        continuationsFromNoneToEight();
        eachLetterCountsOnce();
        continuationsByRules();
        continuationsOfTwelveLetters();
        continuationsOfAWordWithANine();
        continuationsOfAnEmptyWord();
        continuationsLeaveTheBufferAsItIs();
        finish(begun + " boundary cases of the questions hold");
    }
}
