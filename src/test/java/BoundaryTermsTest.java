/** A test for each boundary case that the sections "What it is" and "Terms" name, under its words. */
public final class BoundaryTermsTest extends Bench {
    private static final int SETUP_CALLS = 9;
    private static final int PROMISED_CALLS = 512;

    private static AffixSpeller usedForNineCalls() {
        AffixSpeller x = new AffixSpeller();
        x.type(1);
        x.type(2);
        x.stem(1);
        x.type(3);
        x.keep(APPEND);
        x.rule(0, SUFFIX, CROSS);
        x.type(1);
        x.type(2);
        x.type(3);
        return x;
    }

    /** Kinds 0 to 6 leave the object as it is, so that they can be made again and again. */
    private static void dueOfKind(AffixSpeller x, int kind, String when) {
        switch (kind) {
            case 0: due(when + " length()", x.length(), 3); break;
            case 1: due(when + " derivations()", x.derivations(), 1); break;
            case 2: due(when + " stemOf(0)", x.stemOf(0), 0); break;
            case 3: due(when + " suffixOf(0)", x.suffixOf(0), 0); break;
            case 4: due(when + " prefixOf(0)", x.prefixOf(0), NONE); break;
            case 5: due(when + " continuations()", x.continuations(), 0); break;
            case 6: due(when + " reflag(0, 1)", x.reflag(0, 1), 1); break;
            case 7: due(when + " type(4)", x.type(4), 4); break;
            case 8: due(when + " keep(2)", x.keep(CONDITION), 3); break;
            case 9: due(when + " rule(0, true, true)", x.rule(0, SUFFIX, CROSS), 1); break;
            default: due(when + " stem(0)", x.stem(0), 1); break;
        }
    }

    private static AffixSpeller usedUpTo(int allCalls) {
        AffixSpeller x = usedForNineCalls();
        for (int calls = SETUP_CALLS; calls < allCalls; calls++) {
            dueOfKind(x, calls % 7, "call " + (calls + 1));
        }
        return x;
    }

    private static void lastPromisedCall() {
        begin("What it is", "An object is used for at most 512 calls after it has been made");
        for (int kind = 0; kind <= 10; kind++) {
            AffixSpeller x = usedUpTo(PROMISED_CALLS - 1);
            dueOfKind(x, kind, "call 512");
        }
    }

    private static void laterCallsEnd() {
        begin("What it is", "what later calls answer is free");
        // Free are the answers; that every call comes to an end is a rule of LANGUAGE.md.
        AffixSpeller x = usedUpTo(PROMISED_CALLS);
        for (int i = 0; i < 2000; i++) {
            x.type(i % 10);
            x.keep(i % 4);
            x.rule(i % 9, i % 2 == 0, i % 3 == 0);
            x.type(1 + i % 8);
            x.stem(i);
            x.type(1 + i % 8);
            x.reflag(i % 13, i);
            x.length();
            x.derivations();
            x.stemOf(i);
            x.suffixOf(-i);
            x.prefixOf(i);
            x.continuations();
            if (i % 5 == 0) {
                x.erase();
            }
        }
    }

    private static void lettersFromOneToEight() {
        AffixSpeller x = begin("Terms", "Letters are 1 to 8");
        for (int letter = 1; letter <= 8; letter++) {
            due("stem " + letter, addStem(x, "" + letter, 0), letter - 1);
        }
        for (int letter = 1; letter <= 8; letter++) {
            dueList(x, "" + letter, (letter - 1) + ":-:-");
        }
        due("stem 9", addStem(x, "9", 0), BAD_WORD);
        spell(x, "0");
        due("length after a 0", x.length(), 0);
    }

    private static void wordsUpToTwelveLetters() {
        AffixSpeller x = begin("Terms", "a WORD is a list of at most 12 letters");
        due("stem of twelve letters", addStem(x, "123456781234", 0), 0);
        dueList(x, "123456781234", "0:-:-");
        due("a thirteenth letter", x.type(5), FULL);
        dueListOfBuffer(x, "123456781234", "0:-:-");
        dueList(x, "123456781235", "");
        dueList(x, "223456781234", "");
        dueList(x, "12345678123", "");
        dueList(x, "23456781234", "");
    }

    private static void flagsFromZeroToSeven() {
        AffixSpeller x = begin("Terms", "has a flag (0 to 7)");
        addStem(x, "1", 1);
        addStem(x, "1", 128);
        due("rule with flag 0", addRule(x, "/2/", 0, SUFFIX, ALONE), 0);
        due("rule with flag 7", addRule(x, "/3/", 7, SUFFIX, ALONE), 1);
        dueList(x, "12", "0:0:-");
        dueList(x, "13", "1:1:-");
    }

    private static void stripOfZeroToThreeLetters() {
        AffixSpeller x = begin("Terms", "STRIP and APPEND (0 to 3 letters each)");
        addStem(x, "123456", 1);
        String[] strips = {"", "6", "56", "456", "", "1", "12", "123"};
        for (int r = 0; r < 8; r++) {
            due("rule", addRule(x, strips[r] + (r < 4 ? "/7/" : "/8/"), 0, r < 4, ALONE), r);
        }
        dueList(x, "1234567", "0:0:-");
        dueList(x, "123457", "0:1:-");
        dueList(x, "12347", "0:2:-");
        dueList(x, "1237", "0:3:-");
        dueList(x, "8123456", "0:-:4");
        dueList(x, "823456", "0:-:5");
        dueList(x, "83456", "0:-:6");
        dueList(x, "8456", "0:-:7");
        due("keep of a STRIP of four", keepWord(x, "3456", STRIP), BAD_WORD);
    }

    private static void appendOfZeroToThreeLetters() {
        AffixSpeller x = begin("Terms", "STRIP and APPEND (0 to 3 letters each)");
        addStem(x, "12", 1);
        String[] parts = {"2//", "2/3/", "2/34/", "2/345/", "1//", "1/3/", "1/43/", "1/543/"};
        for (int r = 0; r < 8; r++) {
            due("rule", addRule(x, parts[r], 0, r < 4, ALONE), r);
        }
        dueList(x, "1", "0:0:-");
        dueList(x, "13", "0:1:-");
        dueList(x, "134", "0:2:-");
        dueList(x, "1345", "0:3:-");
        dueList(x, "2", "0:-:4");
        dueList(x, "32", "0:-:5");
        dueList(x, "432", "0:-:6");
        dueList(x, "5432", "0:-:7");
        due("keep of an APPEND of four", keepWord(x, "3456", APPEND), BAD_WORD);
    }

    private static void conditionOfZeroToThreeLetters() {
        AffixSpeller x = begin("Terms", "CONDITION (0 to 3 letters, where 9 stands for any letter)");
        addStem(x, "123456", 1);
        String[] ends = {"", "6", "56", "456", "356"};
        String[] beginnings = {"", "1", "12", "123", "124"};
        for (int i = 0; i < 5; i++) {
            addRule(x, "/7/" + ends[i], 0, SUFFIX, ALONE);
        }
        for (int i = 0; i < 5; i++) {
            addRule(x, "/8/" + beginnings[i], 0, PREFIX, ALONE);
        }
        dueList(x, "1234567", "0:0:- 0:1:- 0:2:- 0:3:-");
        dueList(x, "8123456", "0:-:5 0:-:6 0:-:7 0:-:8");
        due("keep of a CONDITION of four", keepWord(x, "3456", CONDITION), BAD_WORD);
    }

    private static void nineStandsForEachLetter() {
        AffixSpeller x = begin("Terms", "9 stands for any letter");
        for (int letter = 1; letter <= 8; letter++) {
            addStem(x, "" + letter, 1);
        }
        addRule(x, "/11/9", 0, SUFFIX, ALONE);
        addRule(x, "/22/9", 0, PREFIX, ALONE);
        for (int letter = 1; letter <= 8; letter++) {
            dueList(x, letter + "11", (letter - 1) + ":0:-");
            dueList(x, "22" + letter, (letter - 1) + ":-:1");
        }
    }

    private static void nineAtEachPlaceOfACondition() {
        AffixSpeller x = begin("Terms", "9 stands for any letter");
        addStem(x, "123", 1);
        String[] conditions = {"923", "193", "129", "999", "924"};
        for (int i = 0; i < 5; i++) {
            addRule(x, "/7/" + conditions[i], 0, SUFFIX, ALONE);
        }
        for (int i = 0; i < 5; i++) {
            addRule(x, "/8/" + conditions[i], 0, PREFIX, ALONE);
        }
        dueList(x, "1237", "0:0:- 0:1:- 0:2:- 0:3:-");
        dueList(x, "8123", "0:-:5 0:-:6 0:-:7 0:-:8");
    }

    private static void suffixOnAWordAsLongAsStrip() {
        AffixSpeller x = begin("Terms", "(w is at least as long as each of them)");
        addStem(x, "412", 1);
        addStem(x, "12", 1);
        addStem(x, "2", 1);
        addRule(x, "12/56/", 0, SUFFIX, ALONE);
        addRule(x, "12/3/", 0, SUFFIX, ALONE);
        // This rule puts a 1 before each stem: the stem 2 must not be taken to end in 12 for it.
        addRule(x, "/1/", 0, PREFIX, ALONE);
        dueList(x, "456", "0:0:-");
        dueList(x, "56", "1:0:-");
        dueList(x, "43", "0:1:-");
        dueList(x, "3", "1:1:-");
        dueList(x, "6", "");
        dueList(x, "12", "1:-:- 2:-:2");
    }

    private static void suffixOnAWordAsLongAsCondition() {
        AffixSpeller x = begin("Terms", "(w is at least as long as each of them)");
        addStem(x, "111", 1);
        addStem(x, "11", 1);
        addStem(x, "1", 1);
        addRule(x, "/2/99", 0, SUFFIX, ALONE);
        addRule(x, "/3/999", 0, SUFFIX, ALONE);
        addRule(x, "/4/11", 0, SUFFIX, ALONE);
        addRule(x, "/1/", 0, PREFIX, ALONE);
        dueList(x, "1112", "0:0:-");
        dueList(x, "112", "1:0:-");
        dueList(x, "12", "");
        dueList(x, "1113", "0:1:-");
        dueList(x, "113", "");
        dueList(x, "13", "");
        dueList(x, "114", "1:2:-");
        dueList(x, "14", "");
    }

    private static void prefixOnAWordAsLongAsStrip() {
        AffixSpeller x = begin("Terms", "A PREFIX rule can be applied to w if w begins with STRIP");
        addStem(x, "124", 1);
        addStem(x, "12", 1);
        addStem(x, "1", 1);
        addRule(x, "12/56/", 0, PREFIX, ALONE);
        addRule(x, "12/3/", 0, PREFIX, ALONE);
        // This rule puts a 2 behind each stem: the stem 1 must not be taken to begin with 12 for it.
        addRule(x, "/2/", 0, SUFFIX, ALONE);
        dueList(x, "564", "0:-:0");
        dueList(x, "56", "1:-:0");
        dueList(x, "34", "0:-:1");
        dueList(x, "3", "1:-:1");
        dueList(x, "5", "");
        dueList(x, "12", "1:-:- 2:2:-");
    }

    private static void prefixOnAWordAsLongAsCondition() {
        AffixSpeller x = begin("Terms", "the beginning of w matches CONDITION");
        addStem(x, "111", 1);
        addStem(x, "11", 1);
        addStem(x, "1", 1);
        addRule(x, "/2/99", 0, PREFIX, ALONE);
        addRule(x, "/3/999", 0, PREFIX, ALONE);
        addRule(x, "/4/11", 0, PREFIX, ALONE);
        addRule(x, "/1/", 0, SUFFIX, ALONE);
        dueList(x, "2111", "0:-:0");
        dueList(x, "211", "1:-:0");
        dueList(x, "21", "");
        dueList(x, "3111", "0:-:1");
        dueList(x, "311", "");
        dueList(x, "31", "");
        dueList(x, "411", "1:-:2");
        dueList(x, "41", "");
    }

    private static void suffixThatStripsTheWholeWord() {
        AffixSpeller x = begin("Terms", "The result is w without that STRIP at its end, followed by APPEND.");
        addStem(x, "123", 1);
        addRule(x, "123/456/", 0, SUFFIX, ALONE);
        addRule(x, "123//", 0, SUFFIX, ALONE);
        dueList(x, "456", "0:0:-");
        dueList(x, "123", "0:-:-");
        dueList(x, "", "");
    }

    private static void prefixThatStripsTheWholeWord() {
        AffixSpeller x = begin("Terms",
            "The result is APPEND followed by w without that STRIP at its beginning.");
        addStem(x, "123", 1);
        addRule(x, "123/456/", 0, PREFIX, ALONE);
        addRule(x, "123//", 0, PREFIX, ALONE);
        dueList(x, "456", "0:-:0");
        dueList(x, "123", "0:-:-");
        dueList(x, "", "");
    }

    private static void stemsOfOneToTwelveLetters() {
        AffixSpeller x = begin("Terms", "A STEM is a word (1 to 12 letters) with a set of flags.");
        due("stem of no letters", addStem(x, "", 255), BAD_WORD);
        for (int length = 1; length <= 12; length++) {
            String word = "111111111111".substring(0, length);
            due("stem of " + length + " letters", addStem(x, word, 0), length - 1);
        }
        for (int length = 1; length <= 12; length++) {
            dueList(x, "111111111111".substring(0, length), (length - 1) + ":-:-");
        }
    }

    private static void noFlagOneFlagAllFlags() {
        AffixSpeller x = begin("Terms", "A stem ALLOWS the rules whose flag it has.");
        for (int flag = 0; flag <= 7; flag++) {
            addStem(x, "1", 1 << flag);
            addRule(x, "/" + (flag + 1) + "/", flag, SUFFIX, ALONE);
        }
        addStem(x, "1", 0);
        addStem(x, "1", 255);
        for (int flag = 0; flag <= 7; flag++) {
            dueList(x, "1" + (flag + 1), flag + ":" + flag + ":- 9:" + flag + ":-");
        }
    }

    private static void crossMarksOfTwoRules() {
        AffixSpeller x = begin("Terms", "both have the CROSS mark if two are named");
        addStem(x, "1", 1);
        addRule(x, "/2/", 0, SUFFIX, CROSS);
        addRule(x, "/2/", 0, SUFFIX, ALONE);
        addRule(x, "/3/", 0, PREFIX, CROSS);
        addRule(x, "/3/", 0, PREFIX, ALONE);
        dueList(x, "312", "0:0:2");
        dueList(x, "12", "0:0:- 0:1:-");
        dueList(x, "31", "0:-:2 0:-:3");
    }

    private static void atMostOneRuleOfEachKind() {
        AffixSpeller x = begin("Terms", "the triples (stem, suffix rule or none, prefix rule or none)");
        addStem(x, "1", 1);
        dueList(x, "1", "0:-:-");
        addRule(x, "/2/", 0, SUFFIX, CROSS);
        addRule(x, "/3/", 0, PREFIX, CROSS);
        dueList(x, "1", "0:-:-");
        dueList(x, "12", "0:0:-");
        dueList(x, "31", "0:-:1");
        dueList(x, "312", "0:0:1");
        dueList(x, "122", "");
        dueList(x, "331", "");
        dueList(x, "21", "");
        dueList(x, "13", "");
    }

    private static void emptyOnTheWay() {
        AffixSpeller x = begin("Terms", "by applying the suffix rule (if any) and then the prefix rule (if any)"
            + " to what came of it, where each can be applied");
        addStem(x, "12", 1);
        addRule(x, "12//", 0, SUFFIX, CROSS);
        addRule(x, "/3/", 0, PREFIX, CROSS);
        addRule(x, "/4/9", 0, PREFIX, CROSS);
        addRule(x, "1/5/", 0, PREFIX, CROSS);
        dueList(x, "3", "0:0:1");
        dueList(x, "4", "");
        dueList(x, "5", "");
    }

    private static void longerThanTwelveOnTheWay() {
        AffixSpeller x = begin("Terms", "Results may be longer than 12 letters on the way; x itself has at most 12.");
        addStem(x, "123456781234", 1);
        addRule(x, "/567/", 0, SUFFIX, CROSS);
        addRule(x, "123//", 0, PREFIX, CROSS);
        addRule(x, "/5/", 0, SUFFIX, CROSS);
        addRule(x, "1//", 0, PREFIX, CROSS);
        addRule(x, "234//", 0, SUFFIX, CROSS);
        addRule(x, "/888/", 0, PREFIX, CROSS);
        addRule(x, "/6/", 0, PREFIX, CROSS);
        dueList(x, "456781234567", "0:0:1");
        dueList(x, "234567812345", "0:2:3");
        dueList(x, "888123456781", "0:4:5");
        // No longer result is cut to twelve letters, at either end.
        dueList(x, "123456781234", "0:-:-");
        dueList(x, "456781234", "0:-:1");
        dueList(x, "612345678123", "");
        dueContinuations(x, "12345678123", 1);
    }

    private static void wordWithANine() {
        AffixSpeller x = begin("Terms", "(a word with a 9 or without letters has no derivations)");
        addStem(x, "1", 1);
        addStem(x, "11", 1);
        addStem(x, "111111111111", 1);
        addRule(x, "//9", 0, SUFFIX, CROSS);
        addRule(x, "//9", 0, PREFIX, CROSS);
        dueList(x, "9", "");
        dueList(x, "19", "");
        dueList(x, "91", "");
        dueList(x, "99", "");
        dueList(x, "911111111111", "");
        dueList(x, "111111911111", "");
        dueList(x, "111111111119", "");
    }

    private static void wordWithoutLetters() {
        AffixSpeller x = begin("Terms", "(a word with a 9 or without letters has no derivations)");
        addStem(x, "1", 1);
        addRule(x, "1//", 0, SUFFIX, CROSS);
        addRule(x, "1//", 0, PREFIX, CROSS);
        addRule(x, "//", 0, PREFIX, CROSS);
        dueList(x, "", "");
        dueNothingAt(x, "", 0);
    }

    private static void questionsChangeNothing() {
        AffixSpeller x = begin("Terms", "The calls below change nothing.");
        addStem(x, "12", 3);
        addStem(x, "12345678123", 3);
        addStem(x, "123456781234", 3);
        keepParts(x, "2/35/12");
        x.rule(0, SUFFIX, CROSS);
        askEverything(x, "");
        askEverything(x, "135");
        askEverything(x, "12345678123");
        askEverything(x, "123456781234");
        due("the next letter", x.type(1), FULL);
        askEverything(x, "12");
        due("the next rule", x.rule(1, SUFFIX, CROSS), 1);
        due("the next stem", x.stem(0), 3);
        dueList(x, "135", "0:0:- 0:1:-");
        dueList(x, "12345678123", "1:-:-");
        dueList(x, "123456781234", "2:-:-");
        due("old flags", x.reflag(0, 0), 3);
    }

    private static void askEverything(AffixSpeller x, String word) {
        spell(x, word);
        for (int times = 0; times < 2; times++) {
            int count = x.derivations();
            x.continuations();
            x.stemOf(0);
            x.suffixOf(count);
            x.prefixOf(-1);
            due(word + " length", x.length(), word.length());
            due(word + " derivations again", x.derivations(), count);
        }
    }

    public static void main(String[] args) {
        lastPromisedCall();
        laterCallsEnd();
        lettersFromOneToEight();
        wordsUpToTwelveLetters();
        flagsFromZeroToSeven();
        stripOfZeroToThreeLetters();
        appendOfZeroToThreeLetters();
        conditionOfZeroToThreeLetters();
        nineStandsForEachLetter();
        nineAtEachPlaceOfACondition();
        suffixOnAWordAsLongAsStrip();
        suffixOnAWordAsLongAsCondition();
        prefixOnAWordAsLongAsStrip();
        prefixOnAWordAsLongAsCondition();
        suffixThatStripsTheWholeWord();
        prefixThatStripsTheWholeWord();
        stemsOfOneToTwelveLetters();
        noFlagOneFlagAllFlags();
        crossMarksOfTwoRules();
        atMostOneRuleOfEachKind();
        emptyOnTheWay();
        longerThanTwelveOnTheWay();
        wordWithANine();
        wordWithoutLetters();
        questionsChangeNothing();
        finish(begun + " boundary cases of the terms hold");
    }
}
