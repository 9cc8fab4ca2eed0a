/** Goes through the document's promises: ordinary inputs, the edges it names, and wrong inputs. */
public final class PromiseTest extends Bench {
    private static final int[] FAR = {Integer.MIN_VALUE, Integer.MAX_VALUE, NONE, 1000};

    private static void newObject() {
        place = "promise 1";
        AffixSpeller x = new AffixSpeller();
        due("length", x.length(), 0);
        due("derivations", x.derivations(), 0);
        due("continuations", x.continuations(), 0);
        due("stemOf(0)", x.stemOf(0), NONE);
        due("suffixOf(0)", x.suffixOf(0), NONE);
        due("prefixOf(0)", x.prefixOf(0), NONE);
        due("reflag(0, 1)", x.reflag(0, 1), NONE);
        due("stem without letters", x.stem(1), BAD_WORD);
        due("first rule", x.rule(0, SUFFIX, ALONE), 0);
        due("first stem", addStem(x, "12", 1), 0);
        // The rule was added with the parts of a new object: all empty, so it changes no word.
        dueList(x, "12", "0:-:- 0:0:-");
        dueList(x, "1", "");

        AffixSpeller other = new AffixSpeller();
        due("another object's rule", other.rule(7, PREFIX, CROSS), 0);
        due("another object's length", other.length(), 0);
        due("another object's reflag", other.reflag(0, 0), NONE);
    }

    private static void typing() {
        place = "promise 2";
        AffixSpeller x = new AffixSpeller();
        for (int bad : new int[] {0, -1, 10, 11, Integer.MIN_VALUE, Integer.MAX_VALUE}) {
            due("type(" + bad + ")", x.type(bad), BAD_LETTER);
            due("length", x.length(), 0);
        }
        for (int letter = 1; letter <= 9; letter++) {
            due("type(" + letter + ")", x.type(letter), letter);
        }
        due("type(1)", x.type(1), 10);
        due("type(8)", x.type(8), 11);
        due("type(9)", x.type(9), 12);
        due("type(1) on a full buffer", x.type(1), FULL);
        due("type(9) on a full buffer", x.type(9), FULL);
        due("length", x.length(), 12);

        addStem(x, "123456781234", 0);
        spell(x, "123456781234");
        due("type(5) on a full buffer", x.type(5), FULL);
        due("type(0) on a full buffer", x.type(0), BAD_LETTER);
        due("derivations after refused letters", x.derivations(), 1);
    }

    private static void erasing() {
        place = "promise 3";
        AffixSpeller x = new AffixSpeller();
        x.erase();
        due("length", x.length(), 0);
        spell(x, "999999999999");
        x.erase();
        due("length", x.length(), 0);
        due("type(3)", x.type(3), 1);
        due("stem", x.stem(0), 0);
        dueList(x, "3", "0:-:-");
        spell(x, "2");
        x.keep(1);
        spell(x, "44");
        x.erase();
        // Erasing empties the buffer alone: rule parts, rules and stems stay.
        x.rule(0, SUFFIX, ALONE);
        x.reflag(0, 1);
        dueList(x, "32", "0:0:-");
    }

    private static void keeping() {
        place = "promise 4";
        AffixSpeller x = new AffixSpeller();
        due("keep(0) of nothing", x.keep(0), 0);
        for (int part = 0; part < 3; part++) {
            spell(x, "12");
            due("keep(" + part + ") of 12", x.keep(part), 2);
            due("length", x.length(), 0);
            spell(x, "123");
            due("keep(" + part + ") of 123", x.keep(part), 3);
            due("length", x.length(), 0);
            spell(x, "1234");
            due("keep(" + part + ") of 1234", x.keep(part), BAD_WORD);
            due("length", x.length(), 4);
        }
        for (int bad : new int[] {-1, 3, 4, Integer.MIN_VALUE, Integer.MAX_VALUE}) {
            spell(x, "12");
            due("keep(" + bad + ")", x.keep(bad), BAD_PART);
            due("length", x.length(), 2);
        }
        for (String word : new String[] {"9", "19", "91", "129", "999"}) {
            spell(x, word);
            due("keep(0) of " + word, x.keep(0), BAD_WORD);
            due("keep(1) of " + word, x.keep(1), BAD_WORD);
            due("length", x.length(), word.length());
            due("keep(2) of " + word, x.keep(2), word.length());
            due("length", x.length(), 0);
        }
        spell(x, "9999");
        due("keep(2) of 9999", x.keep(2), BAD_WORD);
        due("length", x.length(), 4);
    }

    private static void keepingChangesRulesToCome() {
        place = "promise 4, the parts";
        AffixSpeller x = new AffixSpeller();
        addStem(x, "123", 1);
        addRule(x, "3/45/9", 0, SUFFIX, ALONE);
        // What is refused leaves the parts as they are.
        spell(x, "1234");
        x.keep(0);
        x.keep(1);
        x.keep(2);
        spell(x, "9");
        x.keep(0);
        x.keep(1);
        spell(x, "7");
        x.keep(3);
        x.keep(-1);
        x.rule(0, SUFFIX, ALONE);
        // A part kept now is the part of later rules alone, and a shorter one replaces all of it.
        spell(x, "6");
        x.keep(1);
        x.rule(0, SUFFIX, ALONE);
        x.erase();
        due("keep(0) of nothing", x.keep(0), 0);
        x.rule(0, SUFFIX, ALONE);
        dueList(x, "1245", "0:0:- 0:1:-");
        dueList(x, "126", "0:2:-");
        dueList(x, "1236", "0:3:-");
        dueList(x, "123", "0:-:-");
    }

    private static void addingRules() {
        place = "promise 5";
        AffixSpeller x = new AffixSpeller();
        for (int bad : new int[] {-1, 8, 9, Integer.MIN_VALUE, Integer.MAX_VALUE}) {
            due("rule(" + bad + ")", x.rule(bad, SUFFIX, CROSS), BAD_FLAG);
        }
        keepParts(x, "/8/");
        spell(x, "55");
        for (int number = 0; number < 10; number++) {
            boolean suffix = number % 2 == 0;
            due("rule number " + number, x.rule(number % 8, suffix, ALONE), number);
            due("length", x.length(), 2);
        }
        due("an eleventh rule", x.rule(0, SUFFIX, ALONE), FULL);
        due("an eleventh rule", x.rule(7, PREFIX, CROSS), FULL);
        due("length", x.length(), 2);
        addStem(x, "1", 255);
        dueList(x, "18", "0:0:- 0:2:- 0:4:- 0:6:- 0:8:-");
        dueList(x, "81", "0:-:1 0:-:3 0:-:5 0:-:7 0:-:9");
        dueList(x, "818", "");
        for (int flag = 0; flag < 8; flag++) {
            x.reflag(0, 1 << flag);
            boolean twice = flag < 2;
            String second = twice ? " " + (flag == 0 ? "0:8:-" : "0:-:9") : "";
            if (flag % 2 == 0) {
                dueList(x, "18", "0:" + flag + ":-" + second);
                dueList(x, "81", "");
            } else {
                dueList(x, "81", "0:-:" + flag + second);
                dueList(x, "18", "");
            }
        }
    }

    private static void refusedRuleChangesNothing() {
        place = "promise 5, refused";
        AffixSpeller x = new AffixSpeller();
        addStem(x, "1", 255);
        keepParts(x, "/2/");
        x.rule(8, SUFFIX, CROSS);
        x.rule(-1, SUFFIX, CROSS);
        dueList(x, "12", "");
        due("the first good rule", x.rule(3, SUFFIX, CROSS), 0);
        dueList(x, "12", "0:0:-");
    }

    private static void addingStems() {
        place = "promise 6";
        AffixSpeller x = new AffixSpeller();
        due("stem without letters", x.stem(0), BAD_WORD);
        for (String word : new String[] {"9", "12349", "91234", "12934"}) {
            spell(x, word);
            due("stem of " + word, x.stem(255), BAD_WORD);
            due("length", x.length(), word.length());
        }
        due("stem of one letter", addStem(x, "1", 1), 0);
        due("length", x.length(), 0);
        due("stem of twelve letters", addStem(x, "876543218765", 2), 1);
        due("length", x.length(), 0);
        due("the same word again", addStem(x, "1", 4), 2);
        for (int number = 3; number < 12; number++) {
            due("stem number " + number, addStem(x, "2" + (number % 8 + 1), 0), number);
        }
        spell(x, "333");
        due("a thirteenth stem", x.stem(0), FULL);
        due("length", x.length(), 3);
        dueList(x, "333", "");
        dueList(x, "1", "0:-:- 2:-:-");
        dueList(x, "876543218765", "1:-:-");
        dueList(x, "24", "3:-:- 11:-:-");
        due("old flags", x.reflag(0, 0), 1);
        due("old flags", x.reflag(1, 0), 2);
        due("old flags", x.reflag(2, 0), 4);
        due("old flags", x.reflag(11, 0), 0);
        due("reflag(12, 0)", x.reflag(12, 0), NONE);
    }

    private static void flagsOfStems() {
        place = "promise 6, flags";
        AffixSpeller x = new AffixSpeller();
        int[] flags = {0, 1, 128, 255, 256, 257, -1, -256, Integer.MIN_VALUE, Integer.MAX_VALUE};
        for (int s = 0; s < flags.length; s++) {
            due("stem(" + flags[s] + ")", addStem(x, "1", flags[s]), s);
        }
        keepParts(x, "/2/");
        x.rule(0, SUFFIX, ALONE);
        keepParts(x, "/3/");
        x.rule(7, SUFFIX, ALONE);
        dueList(x, "12", "1:0:- 3:0:- 5:0:- 6:0:- 9:0:-");
        dueList(x, "13", "2:1:- 3:1:- 6:1:- 9:1:-");
        for (int s = 0; s < flags.length; s++) {
            due("old flags", x.reflag(s, 0), flags[s] & 255);
        }
    }

    private static void reflagging() {
        place = "promise 7";
        AffixSpeller x = new AffixSpeller();
        addStem(x, "1", 5);
        addStem(x, "2", 255);
        addRule(x, "/3/", 1, SUFFIX, ALONE);
        dueList(x, "13", "");
        spell(x, "777");
        due("reflag(0, 2)", x.reflag(0, 2), 5);
        due("length", x.length(), 3);
        dueList(x, "13", "0:0:-");
        due("reflag(0, -1)", x.reflag(0, -1), 2);
        due("reflag(0, 256)", x.reflag(0, 256), 255);
        dueList(x, "13", "");
        due("reflag(0, 511)", x.reflag(0, 511), 0);
        due("reflag(0, 0)", x.reflag(0, 0), 255);
        for (int bad : new int[] {-1, 2, 11, 12, Integer.MIN_VALUE, Integer.MAX_VALUE}) {
            due("reflag(" + bad + ", 255)", x.reflag(bad, 255), NONE);
        }
        due("the other stem's flags", x.reflag(1, 255), 255);
        due("flags after refusals", x.reflag(0, 0), 0);
    }

    private static void lengths() {
        place = "promise 8";
        AffixSpeller x = new AffixSpeller();
        due("length", x.length(), 0);
        for (int n = 1; n <= 12; n++) {
            x.type(n % 9 + 1);
            due("length", x.length(), n);
            due("length again", x.length(), n);
        }
        x.erase();
        due("length", x.length(), 0);
    }

    private static void suffixRules() {
        place = "promise 9, suffix rules";
        AffixSpeller x = new AffixSpeller();
        addStem(x, "1232", 1);
        addRule(x, "2/45/", 0, SUFFIX, ALONE);
        addRule(x, "3/46/", 0, SUFFIX, ALONE);
        addRule(x, "32/7/", 0, SUFFIX, ALONE);
        addRule(x, "/8/32", 0, SUFFIX, ALONE);
        addRule(x, "/81/9", 0, SUFFIX, ALONE);
        addRule(x, "/82/292", 0, SUFFIX, ALONE);
        addRule(x, "/83/992", 0, SUFFIX, ALONE);
        addRule(x, "/84/932", 0, SUFFIX, ALONE);
        addRule(x, "/85/329", 0, SUFFIX, ALONE);
        addRule(x, "232/666/132", 0, SUFFIX, ALONE);
        dueList(x, "12345", "0:0:-");
        dueList(x, "123246", "");
        dueList(x, "1246", "");
        dueList(x, "127", "0:2:-");
        dueList(x, "12328", "0:3:-");
        dueList(x, "123281", "0:4:-");
        dueList(x, "123282", "0:5:-");
        dueList(x, "123283", "0:6:-");
        dueList(x, "123284", "0:7:-");
        dueList(x, "123285", "");
        dueList(x, "1666", "");
        dueList(x, "1232", "0:-:-");
    }

    private static void prefixRules() {
        place = "promise 9, prefix rules";
        AffixSpeller x = new AffixSpeller();
        addStem(x, "2321", 1);
        addRule(x, "2/54/", 0, PREFIX, ALONE);
        addRule(x, "3/64/", 0, PREFIX, ALONE);
        addRule(x, "23/7/", 0, PREFIX, ALONE);
        addRule(x, "/8/23", 0, PREFIX, ALONE);
        addRule(x, "/18/9", 0, PREFIX, ALONE);
        addRule(x, "/28/292", 0, PREFIX, ALONE);
        addRule(x, "/38/299", 0, PREFIX, ALONE);
        addRule(x, "/48/239", 0, PREFIX, ALONE);
        addRule(x, "/58/923", 0, PREFIX, ALONE);
        addRule(x, "232/666/231", 0, PREFIX, ALONE);
        dueList(x, "54321", "0:-:0");
        dueList(x, "642321", "");
        dueList(x, "6421", "");
        dueList(x, "721", "0:-:2");
        dueList(x, "82321", "0:-:3");
        dueList(x, "182321", "0:-:4");
        dueList(x, "282321", "0:-:5");
        dueList(x, "382321", "0:-:6");
        dueList(x, "482321", "0:-:7");
        dueList(x, "582321", "");
        dueList(x, "6661", "");
        dueList(x, "2321", "0:-:-");
    }

    private static void shortWords() {
        place = "promise 9, words shorter than a part";
        AffixSpeller x = new AffixSpeller();
        addStem(x, "1", 3);
        addStem(x, "11", 3);
        addRule(x, "/2/99", 0, SUFFIX, CROSS);
        addRule(x, "11/3/", 0, SUFFIX, CROSS);
        addRule(x, "/4/99", 0, PREFIX, CROSS);
        addRule(x, "11/5/", 0, PREFIX, CROSS);
        addRule(x, "/6/9", 1, PREFIX, CROSS);
        addRule(x, "11//", 1, SUFFIX, CROSS);
        addRule(x, "/7/", 1, PREFIX, CROSS);
        dueList(x, "12", "");
        dueList(x, "112", "1:0:-");
        dueList(x, "3", "1:1:-");
        dueList(x, "41", "");
        dueList(x, "411", "1:-:2");
        dueList(x, "5", "1:-:3");
        dueList(x, "52", "1:0:3");
        // Rule 5 leaves an empty word: a prefix rule without needs can still be applied to it.
        dueList(x, "7", "1:5:6");
        dueList(x, "6", "");
        dueList(x, "63", "1:1:4");
    }

    private static void twoRules() {
        place = "promise 9, two rules";
        AffixSpeller x = new AffixSpeller();
        addStem(x, "12", 3);
        addStem(x, "12", 1);
        addStem(x, "12", 2);
        addRule(x, "/3/", 0, SUFFIX, CROSS);
        addRule(x, "/3/", 0, SUFFIX, ALONE);
        addRule(x, "/4/", 1, PREFIX, CROSS);
        addRule(x, "/4/", 1, PREFIX, ALONE);
        dueList(x, "4123", "0:0:2");
        dueList(x, "123", "0:0:- 0:1:- 1:0:- 1:1:-");
        dueList(x, "412", "0:-:2 0:-:3 2:-:2 2:-:3");
        dueList(x, "12", "0:-:- 1:-:- 2:-:-");
        dueList(x, "1233", "");
        dueList(x, "4412", "");
    }

    private static void suffixComesFirst() {
        place = "promise 9, the suffix rule comes first";
        AffixSpeller x = new AffixSpeller();
        addStem(x, "1", 255);
        addRule(x, "1/23/1", 0, SUFFIX, CROSS);
        addRule(x, "2/4/23", 1, PREFIX, CROSS);
        addRule(x, "1/1/", 2, PREFIX, CROSS);
        addRule(x, "/5/41", 3, SUFFIX, CROSS);
        addRule(x, "/4/", 4, PREFIX, CROSS);
        dueList(x, "43", "0:0:1");
        dueList(x, "23", "0:0:-");
        dueList(x, "1", "0:-:- 0:-:2");
        dueList(x, "41", "0:-:4");
        dueList(x, "415", "");
        dueList(x, "423", "0:0:4");
    }

    private static void longWords() {
        place = "promise 9, longer than a word on the way";
        AffixSpeller x = new AffixSpeller();
        addStem(x, "123456781234", 255);
        addRule(x, "/567/", 0, SUFFIX, CROSS);
        addRule(x, "123//", 1, PREFIX, CROSS);
        addRule(x, "/888/", 2, PREFIX, CROSS);
        addRule(x, "234/1/", 3, SUFFIX, CROSS);
        addRule(x, "12/333/", 4, PREFIX, CROSS);
        dueList(x, "456781234567", "0:0:1");
        dueList(x, "456781234", "0:-:1");
        dueList(x, "123456781234", "0:-:-");
        dueList(x, "888123456781", "");
        dueList(x, "333345678112", "");
        dueList(x, "33334567811", "0:3:4");
        dueContinuations(x, "3333456781", 1);
        dueContinuations(x, "45678123456", 1);
        dueContinuations(x, "12345678123", 1);
    }

    private static void wordsWithoutDerivations() {
        place = "promise 9, no letters or a 9";
        AffixSpeller x = new AffixSpeller();
        addStem(x, "1", 255);
        addRule(x, "1//", 0, SUFFIX, CROSS);
        addRule(x, "1//", 0, PREFIX, CROSS);
        addRule(x, "//9", 0, SUFFIX, CROSS);
        dueList(x, "", "");
        dueList(x, "9", "");
        dueList(x, "19", "");
        dueList(x, "91", "");
        dueList(x, "1", "0:-:- 0:2:-");
    }

    private static void orderOfDerivations() {
        place = "promises 10 to 12";
        AffixSpeller x = new AffixSpeller();
        addStem(x, "12", 255);
        addStem(x, "1", 255);
        addStem(x, "12", 1);
        addRule(x, "//", 1, PREFIX, CROSS);
        addRule(x, "//", 0, SUFFIX, CROSS);
        addRule(x, "1/1/", 2, PREFIX, CROSS);
        addRule(x, "2/2/", 3, SUFFIX, CROSS);
        addRule(x, "/2/", 4, SUFFIX, ALONE);
        dueList(x, "12", "0:-:- 0:-:0 0:-:2 0:1:- 0:1:0 0:1:2 0:3:- 0:3:0 0:3:2"
            + " 1:4:- 2:-:- 2:1:-");
        dueList(x, "1", "1:-:- 1:-:0 1:-:2 1:1:- 1:1:0 1:1:2");
        for (int n : FAR) {
            dueNothingAt(x, "1", n);
        }
    }

    private static void continuing() {
        place = "promise 13";
        AffixSpeller x = new AffixSpeller();
        addStem(x, "1", 1);
        addStem(x, "12", 1);
        addStem(x, "13", 0);
        addStem(x, "13", 0);
        addStem(x, "8", 0);
        addStem(x, "1245", 0);
        addRule(x, "/48/", 0, SUFFIX, ALONE);
        addRule(x, "/5/", 0, PREFIX, ALONE);
        dueContinuations(x, "", 2);
        dueContinuations(x, "1", 2);
        dueContinuations(x, "12", 0);
        dueContinuations(x, "124", 2);
        dueContinuations(x, "14", 1);
        dueContinuations(x, "5", 1);
        dueContinuations(x, "51", 1);
        dueContinuations(x, "2", 0);
        dueContinuations(x, "9", 0);
        dueContinuations(x, "91", 0);
        dueContinuations(x, "19", 0);
        dueContinuations(x, "124512451245", 0);
        for (int letter = 2; letter <= 7; letter++) {
            addStem(x, "" + letter, 0);
        }
        dueContinuations(x, "", 8);
        dueContinuations(x, "7", 0);
    }

    private static void continuingLongWords() {
        place = "promise 13, long words";
        AffixSpeller x = new AffixSpeller();
        addStem(x, "111111111111", 1);
        addRule(x, "/2/", 0, SUFFIX, ALONE);
        dueContinuations(x, "11111111111", 1);
        dueContinuations(x, "111111111111", 0);
        dueContinuations(x, "1111111111", 0);
        dueList(x, "111111111111", "0:-:-");
        spell(x, "11111111111");
        x.continuations();
        due("type after continuations", x.type(1), 12);
        due("derivations after continuations", x.derivations(), 1);
    }

    private static void orderOfTests() {
        place = "promise 14";
        AffixSpeller x = new AffixSpeller();
        spell(x, "123412341234");
        due("type(0) on a full buffer", x.type(0), BAD_LETTER);
        due("type(10) on a full buffer", x.type(10), BAD_LETTER);
        due("type(1) on a full buffer", x.type(1), FULL);
        due("keep(3) of a long word", x.keep(3), BAD_PART);
        due("keep(-1) of a long word", x.keep(-1), BAD_PART);
        due("keep(0) of a long word", x.keep(0), BAD_WORD);
        spell(x, "9");
        due("keep(3) of a 9", x.keep(3), BAD_PART);
        due("keep(0) of a 9", x.keep(0), BAD_WORD);
        for (int number = 0; number < 10; number++) {
            x.rule(0, SUFFIX, CROSS);
        }
        due("rule(8) with ten rules", x.rule(8, SUFFIX, CROSS), BAD_FLAG);
        due("rule(-1) with ten rules", x.rule(-1, PREFIX, ALONE), BAD_FLAG);
        due("rule(0) with ten rules", x.rule(0, SUFFIX, CROSS), FULL);
        for (int number = 0; number < 12; number++) {
            addStem(x, "1", 0);
        }
        due("stem without letters, twelve stems", x.stem(0), BAD_WORD);
        spell(x, "19");
        due("stem with a 9, twelve stems", x.stem(0), BAD_WORD);
        spell(x, "1");
        due("stem with twelve stems", x.stem(0), FULL);
    }

    public static void main(String[] args) {
        newObject();
        typing();
        erasing();
        keeping();
        keepingChangesRulesToCome();
        addingRules();
        refusedRuleChangesNothing();
        addingStems();
        flagsOfStems();
        reflagging();
        lengths();
        suffixRules();
        prefixRules();
        shortWords();
        twoRules();
        suffixComesFirst();
        longWords();
        wordsWithoutDerivations();
        orderOfDerivations();
        continuing();
        continuingLongWords();
        orderOfTests();
        finish("all promises hold");
    }
}
