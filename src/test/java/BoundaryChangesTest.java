/** A test for each boundary case that promises 1 to 7 and 14 name, under the document's words. */
public final class BoundaryChangesTest extends Bench {
    private static final int LEAST = Integer.MIN_VALUE;
    private static final int MOST = Integer.MAX_VALUE;
    private static final String TWELVE = "123456781234";
    private static final String KEEPS_THE_LETTERS =
        "Keeps the buffer's letters as the rule part 0 STRIP, 1 APPEND or 2 CONDITION";

    /** Brings a new object to the state that duePrepared knows, with the word 135 in the buffer. */
    private static AffixSpeller prepared(AffixSpeller x) {
        addStem(x, "12", 1);
        addStem(x, "135", 2);
        addStem(x, "1235", 4);
        addStem(x, "22", 1);
        keepParts(x, "2/35/12");
        x.rule(0, SUFFIX, CROSS);
        spell(x, "135");
        return x;
    }

    /** Shows that buffer, rule parts, rules and stems are still as prepared left them. */
    private static void duePrepared(AffixSpeller x) {
        dueListOfBuffer(x, "135", "0:0:- 1:-:-");
        due("the next rule", x.rule(0, SUFFIX, CROSS), 1);
        dueListOfBuffer(x, "135", "0:0:- 0:1:- 1:-:-");
        due("flags of stem 0", x.reflag(0, 1), 1);
        due("flags of stem 1", x.reflag(1, 2), 2);
        due("flags of stem 2", x.reflag(2, 4), 4);
        due("flags of stem 3", x.reflag(3, 1), 1);
        due("flags of stem 4", x.reflag(4, 8), NONE);
        due("the next stem", x.stem(8), 4);
        dueList(x, "135", "0:0:- 0:1:- 1:-:- 4:-:-");
        due("flags of stem 4", x.reflag(4, 8), 8);
        // CONDITION keeps both rules from the stem 22.
        dueList(x, "235", "");
    }

    /** Shows that the buffer of a prepared object is 19: as CONDITION, it suits the stem 12, not 22. */
    private static void dueBufferIsOneNine(AffixSpeller x) {
        due("length", x.length(), 2);
        due("keep(2) of what stays", x.keep(CONDITION), 2);
        due("the next rule", x.rule(0, SUFFIX, CROSS), 1);
        dueList(x, "235", "");
        dueList(x, "135", "0:0:- 0:1:- 1:-:-");
        addStem(x, "18", 1);
        keepWord(x, "", STRIP);
        due("the next rule", x.rule(0, SUFFIX, CROSS), 2);
        dueList(x, "1835", "4:2:-");
    }

    private static void addStems(AffixSpeller x, int count) {
        for (int s = 0; s < count; s++) {
            due("stem number " + s, addStem(x, "1" + (s % 8 + 1), s), s);
        }
    }

    private static void addTenRules(AffixSpeller x) {
        keepParts(x, "/8/");
        for (int r = 0; r < 10; r++) {
            due("rule number " + r, x.rule(r % 8, r % 2 == 0, ALONE), r);
        }
    }

    // Promise 1

    private static void newHasNoStems() {
        AffixSpeller x = begin("Promise 1", "No stems");
        due("reflag(0, 1)", x.reflag(0, 1), NONE);
        due("reflag(11, 1)", x.reflag(11, 1), NONE);
        due("continuations", x.continuations(), 0);
        dueList(x, "1", "");
        addStems(x, 12);
    }

    private static void newHasNoRules() {
        AffixSpeller x = begin("Promise 1", "no rules");
        addStem(x, "1", 255);
        dueList(x, "1", "0:-:-");
        addTenRules(x);
    }

    private static void newHasAnEmptyBuffer() {
        AffixSpeller x = begin("Promise 1", "the buffer and the three rule parts are empty");
        due("length", x.length(), 0);
        due("stem of no letters", x.stem(0), BAD_WORD);
        due("keep of no letters", x.keep(APPEND), 0);
        for (int n = 1; n <= 12; n++) {
            due("letter number " + n, x.type(1), n);
        }
    }

    private static void newHasEmptyParts() {
        AffixSpeller x = begin("Promise 1", "the buffer and the three rule parts are empty");
        x.rule(0, SUFFIX, ALONE);
        x.rule(0, PREFIX, ALONE);
        addStem(x, "12", 1);
        dueList(x, "12", "0:-:- 0:-:1 0:0:-");
        String[] kept = {"2", "3", "19"};
        String[] results = {"1", "123", "12"};
        String[] lists = {"0:0:-", "0:0:-", "0:-:- 0:0:-"};
        for (int part = STRIP; part <= CONDITION; part++) {
            // Two of the three parts are never kept here.
            AffixSpeller y = new AffixSpeller();
            keepWord(y, kept[part], part);
            y.rule(0, SUFFIX, ALONE);
            addStem(y, "12", 1);
            dueList(y, results[part], lists[part]);
        }
    }

    private static void newHasNothingOfAnotherObject() {
        AffixSpeller used = begin("Promise 1", "No stems, no rules; the buffer and the three rule parts are empty.");
        prepared(used);
        AffixSpeller x = new AffixSpeller();
        due("length", x.length(), 0);
        due("reflag(0, 1)", x.reflag(0, 1), NONE);
        due("first rule", x.rule(0, SUFFIX, CROSS), 0);
        due("first stem", addStem(x, "12", 1), 0);
        dueList(x, "12", "0:-:- 0:0:-");
        dueList(x, "135", "");
        duePrepared(used);
    }

    // Promise 2

    private static void letterTooSmall() {
        AffixSpeller x = begin("Promise 2", "letter not in 1 to 9: BAD_LETTER");
        // The last two would be 1 and 9 if they wrapped around to eight bits.
        for (int letter : new int[] {0, -1, -9, LEAST, LEAST + 1, 1 - 256, 9 - 256}) {
            due("type(" + letter + ")", x.type(letter), BAD_LETTER);
        }
        due("type(1)", x.type(1), 1);
    }

    private static void letterTooLarge() {
        AffixSpeller x = begin("Promise 2", "letter not in 1 to 9: BAD_LETTER");
        for (int letter : new int[] {10, 11, MOST, 256 + 1, 65536 + 1}) {
            due("type(" + letter + ")", x.type(letter), BAD_LETTER);
        }
        due("type(9)", x.type(9), 1);
    }

    private static void badLetterChangesNothing() {
        AffixSpeller x = prepared(begin("Promise 2", "nothing changes then"));
        due("type(0)", x.type(0), BAD_LETTER);
        due("type(10)", x.type(10), BAD_LETTER);
        duePrepared(x);
    }

    private static void bufferFull() {
        AffixSpeller x = begin("Promise 2", "the buffer has 12 letters: FULL");
        spell(x, "12345678123");
        due("a twelfth letter", x.type(4), 12);
        for (int letter = 1; letter <= 9; letter++) {
            due("type(" + letter + ") as a thirteenth", x.type(letter), FULL);
        }
    }

    private static void fullBufferChangesNothing() {
        AffixSpeller x = prepared(begin("Promise 2", "nothing changes then"));
        int stem = addStem(x, TWELVE, 0);
        spell(x, TWELVE);
        due("type(8)", x.type(8), FULL);
        due("type(9)", x.type(9), FULL);
        dueListOfBuffer(x, TWELVE, stem + ":-:-");
        dueList(x, "135", "0:0:- 1:-:-");
        due("the next rule", x.rule(0, SUFFIX, CROSS), 1);
        dueListOfBuffer(x, "135", "0:0:- 0:1:- 1:-:-");
    }

    private static void typeAnswersTheLength() {
        AffixSpeller x = begin("Promise 2", "Else answers the buffer's length.");
        for (int n = 1; n <= 12; n++) {
            due("type number " + n, x.type(1 + n % 9), n);
        }
        x.erase();
        due("type after erase", x.type(9), 1);
    }

    private static void nineIsGoodInConditionsAlone() {
        AffixSpeller x = begin("Promise 2", "(9 is good only in conditions.)");
        due("type(9)", x.type(9), 1);
        due("keep(0)", x.keep(STRIP), BAD_WORD);
        due("keep(1)", x.keep(APPEND), BAD_WORD);
        due("stem(0)", x.stem(0), BAD_WORD);
        due("derivations", x.derivations(), 0);
        due("continuations", x.continuations(), 0);
        due("keep(2)", x.keep(CONDITION), 1);
    }

    // Promise 3

    private static void eraseAnEmptyBuffer() {
        AffixSpeller x = begin("Promise 3", "Empties the buffer.");
        x.erase();
        due("length", x.length(), 0);
        x.erase();
        due("length", x.length(), 0);
        due("type(1)", x.type(1), 1);
    }

    private static void eraseAFullBuffer() {
        AffixSpeller x = begin("Promise 3", "Empties the buffer.");
        spell(x, TWELVE);
        x.erase();
        due("length", x.length(), 0);
        due("stem of no letters", x.stem(0), BAD_WORD);
        for (int n = 1; n <= 12; n++) {
            due("type number " + n, x.type(2), n);
        }
        due("stem", x.stem(0), 0);
        dueList(x, "222222222222", "0:-:-");
    }

    private static void eraseANine() {
        AffixSpeller x = begin("Promise 3", "Empties the buffer.");
        x.type(1);
        x.type(9);
        x.erase();
        x.type(2);
        due("keep(0)", x.keep(STRIP), 1);
        x.type(9);
        x.erase();
        x.type(1);
        due("stem", x.stem(0), 0);
        dueList(x, "1", "0:-:-");
    }

    private static void eraseEmptiesTheBufferAlone() {
        AffixSpeller x = prepared(begin("Promise 3", "Empties the buffer."));
        x.erase();
        x.type(1);
        x.type(3);
        x.type(5);
        duePrepared(x);
    }

    // Promise 4

    private static void partTooSmallOrTooLarge() {
        AffixSpeller x = begin("Promise 4", "part not in 0 to 2: BAD_PART");
        for (int part : new int[] {-1, 3, 4, LEAST, MOST, 256, 256 + 2, 1 - 256}) {
            spell(x, "12");
            due("keep(" + part + ")", x.keep(part), BAD_PART);
            x.erase();
            due("keep(" + part + ") of no letters", x.keep(part), BAD_PART);
        }
        for (int part = STRIP; part <= CONDITION; part++) {
            due("keep(" + part + ")", keepWord(x, "12", part), 2);
        }
    }

    private static void badPartChangesNothing() {
        AffixSpeller x = prepared(begin("Promise 4", "nothing changes then (the buffer stays)"));
        due("keep(-1)", x.keep(-1), BAD_PART);
        due("keep(3)", x.keep(3), BAD_PART);
        duePrepared(x);
    }

    private static void moreThanThreeLetters() {
        AffixSpeller x = begin("Promise 4", "the buffer has more than 3 letters");
        for (int part = STRIP; part <= CONDITION; part++) {
            due("keep(" + part + ") of three", keepWord(x, "123", part), 3);
            due("keep(" + part + ") of four", keepWord(x, "1234", part), BAD_WORD);
            due("keep(" + part + ") of twelve", keepWord(x, TWELVE, part), BAD_WORD);
        }
        due("keep(2) of four with a 9", keepWord(x, "1239", CONDITION), BAD_WORD);
        due("keep(2) of 9999", keepWord(x, "9999", CONDITION), BAD_WORD);
    }

    private static void longPartChangesNothing() {
        AffixSpeller x = prepared(begin("Promise 4", "nothing changes then (the buffer stays)"));
        spell(x, "1235");
        for (int part = STRIP; part <= CONDITION; part++) {
            due("keep(" + part + ")", x.keep(part), BAD_WORD);
        }
        dueListOfBuffer(x, "1235", "2:-:-");
        spell(x, "135");
        duePrepared(x);
    }

    private static void nineInStrip() {
        AffixSpeller x = begin("Promise 4", "or it has a 9 and part is not 2: BAD_WORD");
        for (String word : new String[] {"9", "19", "91", "912", "192", "129", "999"}) {
            due("keep(0) of " + word, keepWord(x, word, STRIP), BAD_WORD);
        }
        due("keep(0) of 888", keepWord(x, "888", STRIP), 3);
    }

    private static void nineInAppend() {
        AffixSpeller x = begin("Promise 4", "or it has a 9 and part is not 2: BAD_WORD");
        for (String word : new String[] {"9", "19", "91", "912", "192", "129", "999"}) {
            due("keep(1) of " + word, keepWord(x, word, APPEND), BAD_WORD);
        }
        due("keep(1) of 888", keepWord(x, "888", APPEND), 3);
    }

    private static void nineInCondition() {
        AffixSpeller x = begin("Promise 4", "or it has a 9 and part is not 2: BAD_WORD");
        for (String word : new String[] {"9", "19", "91", "912", "192", "129", "999"}) {
            due("keep(2) of " + word, keepWord(x, word, CONDITION), word.length());
        }
    }

    private static void nineInAPartChangesNothing() {
        AffixSpeller x = prepared(begin("Promise 4", "nothing changes then (the buffer stays)"));
        spell(x, "19");
        due("keep(0)", x.keep(STRIP), BAD_WORD);
        due("keep(1)", x.keep(APPEND), BAD_WORD);
        dueBufferIsOneNine(x);

        AffixSpeller y = prepared(new AffixSpeller());
        spell(y, "9");
        due("keep(0)", y.keep(STRIP), BAD_WORD);
        due("keep(1)", y.keep(APPEND), BAD_WORD);
        spell(y, "135");
        duePrepared(y);
    }

    private static void keepAnswersHowManyLetters() {
        AffixSpeller x = begin("Promise 4", "Else answers how many letters the part has.");
        for (int part = STRIP; part <= CONDITION; part++) {
            for (String word : new String[] {"", "8", "81", "818", ""}) {
                due("keep(" + part + ") of " + word, keepWord(x, word, part), word.length());
            }
        }
    }

    private static void keepNoLetters() {
        AffixSpeller x = begin("Promise 4", KEEPS_THE_LETTERS);
        addStem(x, "12", 1);
        keepParts(x, "2/345/12");
        due("keep(0) of no letters", x.keep(STRIP), 0);
        x.rule(0, SUFFIX, ALONE);
        due("keep(1) of no letters", x.keep(APPEND), 0);
        keepWord(x, "7", CONDITION);
        x.rule(0, SUFFIX, ALONE);
        due("keep(2) of no letters", x.keep(CONDITION), 0);
        x.rule(0, SUFFIX, ALONE);
        dueList(x, "12345", "0:0:-");
        dueList(x, "12", "0:-:- 0:2:-");
    }

    private static void keepFewerLettersThanBefore() {
        AffixSpeller x = begin("Promise 4", KEEPS_THE_LETTERS);
        addStem(x, "1234", 1);
        keepParts(x, "234/567/234");
        x.rule(0, SUFFIX, ALONE);
        keepParts(x, "4/6/4");
        x.rule(0, SUFFIX, ALONE);
        dueList(x, "1567", "0:0:-");
        dueList(x, "1236", "0:1:-");
    }

    private static void keepForTheRulesToCome() {
        AffixSpeller x = begin("Promise 4", "for the rules added from now on");
        addStem(x, "12", 1);
        addRule(x, "2/3/2", 0, SUFFIX, ALONE);
        keepParts(x, "1/4/1");
        dueList(x, "13", "0:0:-");
        dueList(x, "42", "");
        x.rule(0, PREFIX, ALONE);
        dueList(x, "13", "0:0:-");
        dueList(x, "42", "0:-:1");
    }

    private static void keepEmptiesTheBuffer() {
        AffixSpeller x = begin("Promise 4", "and empties the buffer");
        for (int part = STRIP; part <= CONDITION; part++) {
            keepWord(x, "123", part);
            due("length after keep(" + part + ")", x.length(), 0);
        }
        for (int n = 1; n <= 12; n++) {
            due("type number " + n, x.type(1), n);
        }
    }

    // Promise 5

    private static void flagTooSmallOrTooLarge() {
        AffixSpeller x = begin("Promise 5", "flag not in 0 to 7: BAD_FLAG");
        // A shift by 32 is a shift by 0, and one by -25 a shift by 7.
        for (int flag : new int[] {-1, 8, 9, 31, 32, 39, -25, -32, 256, LEAST, MOST}) {
            due("rule(" + flag + ")", x.rule(flag, SUFFIX, CROSS), BAD_FLAG);
            due("rule(" + flag + ")", x.rule(flag, PREFIX, ALONE), BAD_FLAG);
        }
        due("rule(0)", x.rule(0, SUFFIX, CROSS), 0);
        due("rule(7)", x.rule(7, SUFFIX, CROSS), 1);
    }

    private static void badFlagChangesNothing() {
        AffixSpeller x = prepared(begin("Promise 5", "nothing changes then"));
        due("rule(-1)", x.rule(-1, SUFFIX, CROSS), BAD_FLAG);
        due("rule(8)", x.rule(8, PREFIX, CROSS), BAD_FLAG);
        duePrepared(x);
    }

    private static void tenRules() {
        AffixSpeller x = begin("Promise 5", "there are ten rules: FULL");
        addTenRules(x);
        for (int flag = 0; flag <= 7; flag++) {
            due("an eleventh rule", x.rule(flag, SUFFIX, CROSS), FULL);
            due("an eleventh rule", x.rule(flag, PREFIX, ALONE), FULL);
        }
    }

    private static void eleventhRuleChangesNothing() {
        AffixSpeller x = begin("Promise 5", "nothing changes then");
        addTenRules(x);
        addStem(x, "1", 255);
        addStem(x, "24", 64);
        keepParts(x, "/7/");
        spell(x, "24");
        due("an eleventh rule", x.rule(0, SUFFIX, CROSS), FULL);
        due("an eleventh rule", x.rule(1, PREFIX, CROSS), FULL);
        dueListOfBuffer(x, "24", "1:-:-");
        dueList(x, "18", "0:0:- 0:2:- 0:4:- 0:6:- 0:8:-");
        dueList(x, "81", "0:-:1 0:-:3 0:-:5 0:-:7 0:-:9");
        dueList(x, "17", "");
        dueList(x, "71", "");
        due("flags of stem 0", x.reflag(0, 1), 255);
        dueList(x, "18", "0:0:- 0:8:-");
        due("the next stem", addStem(x, "1", 0), 2);
    }

    private static void rulesAreNumberedFromZero() {
        AffixSpeller x = begin("Promise 5", "Else the rule gets the next number, from 0, which the call answers.");
        addStem(x, "1", 255);
        for (int r = 0; r < 10; r++) {
            due("rule(8)", x.rule(8, SUFFIX, CROSS), BAD_FLAG);
            // Ten rules with results of their own: 1 to 5 behind the stem, then before it.
            String parts = "/" + (2 + r % 5) + "/";
            due("rule number " + r, addRule(x, parts, r % 8, r < 5, ALONE), r);
        }
        for (int r = 0; r < 5; r++) {
            dueList(x, "1" + (2 + r), "0:" + r + ":-");
            dueList(x, (2 + r) + "1", "0:-:" + (5 + r));
        }
    }

    private static void partsStayKept() {
        AffixSpeller x = begin("Promise 5", "with the three parts as they are kept now (they stay kept)");
        addStem(x, "12", 1);
        addStem(x, "22", 1);
        keepParts(x, "2/3/12");
        for (int r = 0; r < 10; r++) {
            due("rule number " + r, x.rule(0, SUFFIX, ALONE), r);
        }
        dueList(x, "23", "");
        dueList(x, "13", "0:0:- 0:1:- 0:2:- 0:3:- 0:4:- 0:5:- 0:6:- 0:7:- 0:8:- 0:9:-");
    }

    // Promise 6

    private static void otherBitsOfFlags() {
        AffixSpeller x = begin("Promise 6", "f 0 to 7 (other bits are not looked at)");
        int[] given = {256, -256, LEAST, MOST, -1, 257, 384, 0, 255, 1 << 31 | 1};
        int[] taken = {0, 0, 0, 255, 255, 1, 128, 0, 255, 1};
        for (int s = 0; s < given.length; s++) {
            due("stem(" + given[s] + ")", addStem(x, "1", given[s]), s);
        }
        addRule(x, "/2/", 0, SUFFIX, ALONE);
        addRule(x, "/3/", 7, SUFFIX, ALONE);
        dueList(x, "12", "3:0:- 4:0:- 5:0:- 8:0:- 9:0:-");
        dueList(x, "13", "3:1:- 4:1:- 6:1:- 8:1:-");
        for (int s = 0; s < given.length; s++) {
            due("flags after stem(" + given[s] + ")", x.reflag(s, 0), taken[s]);
        }
    }

    private static void stemOfAnEmptyBuffer() {
        AffixSpeller x = begin("Promise 6", "The buffer is empty or has a 9: BAD_WORD");
        due("stem of no letters", x.stem(1), BAD_WORD);
        due("stem of one letter", addStem(x, "1", 1), 0);
        due("stem of no letters", x.stem(1), BAD_WORD);
    }

    private static void stemWithANine() {
        AffixSpeller x = begin("Promise 6", "The buffer is empty or has a 9: BAD_WORD");
        for (String word : new String[] {"9", "91", "19", "999999999999"}) {
            due("stem of " + word, addStem(x, word, 0), BAD_WORD);
        }
        for (int i = 0; i < 12; i++) {
            String word = TWELVE.substring(0, i) + "9" + TWELVE.substring(i + 1);
            due("stem of " + word, addStem(x, word, 0), BAD_WORD);
        }
        due("stem of " + TWELVE, addStem(x, TWELVE, 0), 0);
    }

    private static void emptyStemChangesNothing() {
        AffixSpeller x = prepared(begin("Promise 6", "nothing changes then"));
        x.erase();
        due("stem of no letters", x.stem(255), BAD_WORD);
        due("length", x.length(), 0);
        x.type(1);
        x.type(3);
        x.type(5);
        duePrepared(x);
    }

    private static void stemWithANineChangesNothing() {
        AffixSpeller x = prepared(begin("Promise 6", "nothing changes then"));
        spell(x, "19");
        due("stem of 19", x.stem(255), BAD_WORD);
        due("flags of stem 4", x.reflag(4, 0), NONE);
        dueBufferIsOneNine(x);
    }

    private static void twelveStems() {
        AffixSpeller x = begin("Promise 6", "there are twelve stems: FULL");
        addStems(x, 12);
        due("a thirteenth stem", addStem(x, "5", 0), FULL);
        due("a thirteenth stem, known already", addStem(x, "11", 0), FULL);
        due("a thirteenth stem of twelve letters", addStem(x, TWELVE, 255), FULL);
    }

    private static void thirteenthStemChangesNothing() {
        AffixSpeller x = begin("Promise 6", "nothing changes then");
        addStems(x, 12);
        keepParts(x, "/3/");
        spell(x, "18");
        due("a thirteenth stem", x.stem(255), FULL);
        dueListOfBuffer(x, "18", "7:-:-");
        due("a rule", x.rule(0, SUFFIX, ALONE), 0);
        dueList(x, "183", "7:0:-");
        due("a thirteenth stem", addStem(x, "55", 255), FULL);
        dueListOfBuffer(x, "55", "");
        for (int s = 0; s < 12; s++) {
            due("flags of stem " + s, x.reflag(s, 0), s);
        }
        due("flags of stem 12", x.reflag(12, 0), NONE);
    }

    private static void stemsAreNumberedFromZero() {
        AffixSpeller x = begin("Promise 6", "Else the stem gets the next number, from 0, which the call answers.");
        for (int s = 0; s < 12; s++) {
            due("stem of no letters", x.stem(0), BAD_WORD);
            due("stem number " + s, addStem(x, (1 + s % 8) + "" + (1 + s / 8), 0), s);
        }
        for (int s = 0; s < 12; s++) {
            dueList(x, (1 + s % 8) + "" + (1 + s / 8), s + ":-:-");
        }
    }

    private static void stemEmptiesTheBuffer() {
        AffixSpeller x = begin("Promise 6", "and empties the buffer");
        addStem(x, TWELVE, 0);
        due("length", x.length(), 0);
        for (int n = 1; n <= 12; n++) {
            due("type number " + n, x.type(2), n);
        }
        due("stem", x.stem(0), 1);
        dueList(x, TWELVE, "0:-:-");
        dueList(x, "222222222222", "1:-:-");
    }

    private static void sameWordTwelveTimes() {
        AffixSpeller x = begin("Promise 6", "The same word may be added again.");
        StringBuilder list = new StringBuilder();
        for (int s = 0; s < 12; s++) {
            due("stem number " + s, addStem(x, "12", s), s);
            list.append(s == 0 ? "" : " ").append(s).append(":-:-");
        }
        dueList(x, "12", list.toString());
        for (int s = 0; s < 12; s++) {
            due("flags of stem " + s, x.reflag(s, 0), s);
        }
    }

    // Promise 7

    private static void noSuchStem() {
        AffixSpeller x = begin("Promise 7", "No such stem: NONE");
        due("reflag(0, 1) without stems", x.reflag(0, 1), NONE);
        due("reflag(-1, 1) without stems", x.reflag(-1, 1), NONE);
        for (int s = 0; s < 12; s++) {
            due("reflag(" + s + ", 1) of the next stem", x.reflag(s, 1), NONE);
            addStem(x, "1", 4);
            due("reflag(" + s + ", 4) of the last stem", x.reflag(s, 4), 4);
        }
        for (int s : new int[] {-1, -12, 12, 13, 256, -256, LEAST, MOST, LEAST + 1}) {
            due("reflag(" + s + ", 1)", x.reflag(s, 1), NONE);
        }
    }

    private static void reflagOfNoStemChangesNothing() {
        AffixSpeller x = prepared(begin("Promise 7", "No such stem: NONE, nothing changes."));
        for (int s : new int[] {-1, 4, 11, 12, 256, LEAST, MOST}) {
            due("reflag(" + s + ", 0)", x.reflag(s, 0), NONE);
            due("reflag(" + s + ", 255)", x.reflag(s, 255), NONE);
        }
        duePrepared(x);
    }

    private static void oldFlagsFromZeroTo255() {
        AffixSpeller x = begin("Promise 7", "Else answers the old flags (0 to 255).");
        addStem(x, "1", 0);
        int[] given = {255, 0, 128, 1, -1, 256, 511, LEAST, MOST, -256, 0};
        int[] taken = {255, 0, 128, 1, 255, 0, 255, 0, 255, 0, 0};
        int old = 0;
        for (int i = 0; i < given.length; i++) {
            due("reflag(0, " + given[i] + ")", x.reflag(0, given[i]), old);
            old = taken[i];
        }
    }

    private static void reflagFirstAndLastStem() {
        AffixSpeller x = begin("Promise 7", "Gives stem number s these flags instead.");
        for (int s = 0; s < 12; s++) {
            addStem(x, "1", 1);
        }
        addRule(x, "/2/", 0, SUFFIX, ALONE);
        addRule(x, "/3/", 7, SUFFIX, ALONE);
        due("reflag(0, 128)", x.reflag(0, 128), 1);
        due("reflag(11, 128)", x.reflag(11, 128), 1);
        dueList(x, "12", "1:0:- 2:0:- 3:0:- 4:0:- 5:0:- 6:0:- 7:0:- 8:0:- 9:0:- 10:0:-");
        dueList(x, "13", "0:1:- 11:1:-");
        for (int s = 1; s < 11; s++) {
            due("flags of stem " + s, x.reflag(s, 0), 1);
        }
        dueList(x, "12", "");
    }

    // Promise 14

    private static void badLetterBeforeFull() {
        AffixSpeller x = begin("Promise 14", "type: BAD_LETTER is tested before FULL.");
        spell(x, TWELVE);
        for (int letter : new int[] {0, 10, LEAST, MOST}) {
            due("type(" + letter + ") with twelve letters", x.type(letter), BAD_LETTER);
        }
        due("type(9) with twelve letters", x.type(9), FULL);
    }

    private static void badPartBeforeBadWord() {
        AffixSpeller x = begin("Promise 14", "keep: BAD_PART before BAD_WORD.");
        for (String word : new String[] {"1234", TWELVE, "9", "1239", "999999999999"}) {
            for (int part : new int[] {-1, 3, LEAST, MOST}) {
                due("keep(" + part + ") of " + word, keepWord(x, word, part), BAD_PART);
            }
            due("keep(0) of " + word, keepWord(x, word, STRIP), BAD_WORD);
        }
    }

    private static void badFlagBeforeFull() {
        AffixSpeller x = begin("Promise 14", "rule: BAD_FLAG before FULL.");
        addTenRules(x);
        for (int flag : new int[] {-1, 8, 32, LEAST, MOST}) {
            due("rule(" + flag + ") with ten rules", x.rule(flag, SUFFIX, CROSS), BAD_FLAG);
        }
        due("rule(7) with ten rules", x.rule(7, SUFFIX, CROSS), FULL);
    }

    private static void badWordBeforeFull() {
        AffixSpeller x = begin("Promise 14", "stem: BAD_WORD before FULL.");
        addStems(x, 12);
        for (String word : new String[] {"", "9", "19", "91", "999999999999"}) {
            due("stem of [" + word + "] with twelve stems", addStem(x, word, 0), BAD_WORD);
        }
        due("stem of 1 with twelve stems", addStem(x, "1", 0), FULL);
    }

    private static void promisesOneToFour() {
        newHasNoStems();
        newHasNoRules();
        newHasAnEmptyBuffer();
        newHasEmptyParts();
        newHasNothingOfAnotherObject();
        letterTooSmall();
        letterTooLarge();
        badLetterChangesNothing();
        bufferFull();
        fullBufferChangesNothing();
        typeAnswersTheLength();
        nineIsGoodInConditionsAlone();
        eraseAnEmptyBuffer();
        eraseAFullBuffer();
        eraseANine();
        eraseEmptiesTheBufferAlone();
        partTooSmallOrTooLarge();
        badPartChangesNothing();
        moreThanThreeLetters();
        longPartChangesNothing();
        nineInStrip();
        nineInAppend();
        nineInCondition();
        nineInAPartChangesNothing();
        keepAnswersHowManyLetters();
        keepNoLetters();
        keepFewerLettersThanBefore();
        keepForTheRulesToCome();
        keepEmptiesTheBuffer();
    }

    private static void promisesFiveToSevenAndFourteen() {
        flagTooSmallOrTooLarge();
        badFlagChangesNothing();
        tenRules();
        eleventhRuleChangesNothing();
        rulesAreNumberedFromZero();
        partsStayKept();
        otherBitsOfFlags();
        stemOfAnEmptyBuffer();
        stemWithANine();
        emptyStemChangesNothing();
        stemWithANineChangesNothing();
        twelveStems();
        thirteenthStemChangesNothing();
        stemsAreNumberedFromZero();
        stemEmptiesTheBuffer();
        sameWordTwelveTimes();
        noSuchStem();
        reflagOfNoStemChangesNothing();
        oldFlagsFromZeroTo255();
        reflagFirstAndLastStem();
        badLetterBeforeFull();
        badPartBeforeBadWord();
        badFlagBeforeFull();
        badWordBeforeFull();
    }

    public static void main(String[] args) {
        promisesOneToFour();
        promisesFiveToSevenAndFourteen();
        finish(begun + " boundary cases of the calls that change something hold");
    }
}
