/**
 * A spelling checker that knows stems and affix rules.
 *
 * A triple (stem, suffix rule or none, prefix rule or none) is held as one number, its code, whose
 * order is the order in which derivations are numbered. The derivations of a word are found by
 * trying every code: there are few enough of them that nothing has to be remembered between calls.
 */
public final class AffixSpeller {
    public static final int BAD_LETTER = -1;
    public static final int FULL = -2;
    public static final int BAD_WORD = -3;
    public static final int BAD_PART = -4;
    public static final int BAD_FLAG = -5;
    public static final int NONE = -6;

    private static final int LAST_LETTER = 8;
    private static final int ANY_LETTER = 9;
    private static final int WORD_LETTERS = 12;

    private static final int STRIP = 0;
    private static final int APPEND = 1;
    private static final int CONDITION = 2;
    private static final int PARTS = 3;
    private static final int PART_LETTERS = 3;
    private static final int KEPT_LETTERS = PARTS * PART_LETTERS;

    private static final int RULES = 10;
    private static final int RULE_PARTS = RULES * PARTS;
    private static final int RULE_LETTERS = RULE_PARTS * PART_LETTERS;

    private static final int STEMS = 12;
    private static final int STEM_LETTERS = STEMS * WORD_LETTERS;
    private static final int LAST_FLAG = 7;
    private static final int ALL_FLAGS = 255;

    // A code counts one choice more than there are rules, since "none" is a choice too.
    private static final int RULE_CHOICES = RULES + 1;
    private static final int CODES_PER_STEM = RULE_CHOICES * RULE_CHOICES;

    // A stem stands in the form with room for one APPEND before it and one behind it.
    private static final int FORM_STEM_START = PART_LETTERS;
    private static final int FORM_LETTERS = PART_LETTERS + WORD_LETTERS + PART_LETTERS;

    private final int[] buffer = new int[WORD_LETTERS];
    private int bufferLength = 0;

    private final int[] keptLetters = new int[KEPT_LETTERS];
    private final int[] keptLengths = new int[PARTS];

    private final int[] ruleLetters = new int[RULE_LETTERS];
    private final int[] ruleLengths = new int[RULE_PARTS];
    private final int[] ruleFlags = new int[RULES];
    private final boolean[] ruleIsSuffix = new boolean[RULES];
    private final boolean[] ruleIsCross = new boolean[RULES];
    private int ruleCount = 0;

    private final int[] stemLetters = new int[STEM_LETTERS];
    private final int[] stemLengths = new int[STEMS];
    private final int[] stemFlags = new int[STEMS];
    private int stemCount = 0;

    // Working space: what has come of a stem so far lies from formStart up to, not with, formEnd.
    private final int[] form = new int[FORM_LETTERS];
    private int formStart = FORM_STEM_START;
    private int formEnd = FORM_STEM_START;

    public AffixSpeller() {
    }

    public int type(int letter) {
        if (letter < 1 || letter > ANY_LETTER) {
            return BAD_LETTER;
        }
        if (bufferLength >= WORD_LETTERS) {
            return FULL;
        }
        buffer[bufferLength] = letter;
        bufferLength++;
        return bufferLength;
    }

    public void erase() {
        bufferLength = 0;
    }

    public int keep(int part) {
        if (part < 0 || part >= PARTS) {
            return BAD_PART;
        }
        if (bufferLength > PART_LETTERS) {
            return BAD_WORD;
        }
        if (part != CONDITION && bufferHasNine()) {
            return BAD_WORD;
        }
        int length = bufferLength;
        for (int i = 0; i < length; i++) {
            keptLetters[part * PART_LETTERS + i] = buffer[i];
        }
        keptLengths[part] = length;
        bufferLength = 0;
        return length;
    }

    public int rule(int flag, boolean suffix, boolean cross) {
        if (flag < 0 || flag > LAST_FLAG) {
            return BAD_FLAG;
        }
        if (ruleCount >= RULES) {
            return FULL;
        }
        int number = ruleCount;
        copyKeptParts(number);
        ruleFlags[number] = flag;
        ruleIsSuffix[number] = suffix;
        ruleIsCross[number] = cross;
        ruleCount++;
        return number;
    }

    public int stem(int flags) {
        if (!bufferIsPlainWord()) {
            return BAD_WORD;
        }
        if (stemCount >= STEMS) {
            return FULL;
        }
        int number = stemCount;
        for (int i = 0; i < bufferLength; i++) {
            stemLetters[number * WORD_LETTERS + i] = buffer[i];
        }
        stemLengths[number] = bufferLength;
        stemFlags[number] = flags & ALL_FLAGS;
        stemCount++;
        bufferLength = 0;
        return number;
    }

    public int reflag(int s, int flags) {
        if (s < 0 || s >= stemCount) {
            return NONE;
        }
        int old = stemFlags[s];
        stemFlags[s] = flags & ALL_FLAGS;
        return old;
    }

    public int length() {
        return bufferLength;
    }

    public int derivations() {
        if (!bufferIsPlainWord()) {
            return 0;
        }
        int codes = stemCount * CODES_PER_STEM;
        int count = 0;
        for (int code = 0; code < codes; code++) {
            if (derives(code, bufferLength)) {
                count++;
            }
        }
        return count;
    }

    public int stemOf(int n) {
        int code = codeOfDerivation(n);
        return code == NONE ? NONE : stemInCode(code);
    }

    public int suffixOf(int n) {
        int code = codeOfDerivation(n);
        return code == NONE ? NONE : suffixInCode(code);
    }

    public int prefixOf(int n) {
        int code = codeOfDerivation(n);
        return code == NONE ? NONE : prefixInCode(code);
    }

    public int continuations() {
        if (bufferLength >= WORD_LETTERS || bufferHasNine()) {
            return 0;
        }
        int count = 0;
        for (int letter = 1; letter <= LAST_LETTER; letter++) {
            // The cell behind the buffer's end is free: x itself stays as it is.
            buffer[bufferLength] = letter;
            if (isDerivable(bufferLength + 1)) {
                count++;
            }
        }
        return count;
    }

    private boolean bufferHasNine() {
        for (int i = 0; i < bufferLength; i++) {
            if (buffer[i] == ANY_LETTER) {
                return true;
            }
        }
        return false;
    }

    private boolean bufferIsPlainWord() {
        return bufferLength > 0 && !bufferHasNine();
    }

    private void copyKeptParts(int number) {
        for (int i = 0; i < KEPT_LETTERS; i++) {
            ruleLetters[number * KEPT_LETTERS + i] = keptLetters[i];
        }
        for (int part = 0; part < PARTS; part++) {
            ruleLengths[number * PARTS + part] = keptLengths[part];
        }
    }

    private int codeOfDerivation(int n) {
        if (!bufferIsPlainWord()) {
            return NONE;
        }
        int codes = stemCount * CODES_PER_STEM;
        int seen = 0;
        for (int code = 0; code < codes; code++) {
            if (derives(code, bufferLength)) {
                if (seen == n) {
                    return code;
                }
                seen++;
            }
        }
        return NONE;
    }

    private boolean isDerivable(int length) {
        int codes = stemCount * CODES_PER_STEM;
        for (int code = 0; code < codes; code++) {
            if (derives(code, length)) {
                return true;
            }
        }
        return false;
    }

    private static int stemInCode(int code) {
        return code / CODES_PER_STEM;
    }

    private static int suffixInCode(int code) {
        return ruleOfChoice(code / RULE_CHOICES % RULE_CHOICES);
    }

    private static int prefixInCode(int code) {
        return ruleOfChoice(code % RULE_CHOICES);
    }

    // Choice 0 is "none", so that none comes before all numbers.
    private static int ruleOfChoice(int choice) {
        return choice == 0 ? NONE : choice - 1;
    }

    /** Whether the triple of this code makes the first so many letters of the buffer. */
    private boolean derives(int code, int length) {
        int stem = stemInCode(code);
        int suffix = suffixInCode(code);
        int prefix = prefixInCode(code);
        if (!isAllowed(stem, suffix, true) || !isAllowed(stem, prefix, false)) {
            return false;
        }
        if (!goTogether(suffix, prefix)) {
            return false;
        }
        startForm(stem);
        if (suffix != NONE && !applySuffix(suffix)) {
            return false;
        }
        if (prefix != NONE && !applyPrefix(prefix)) {
            return false;
        }
        return formIsInBuffer(length);
    }

    private boolean isAllowed(int stem, int number, boolean suffix) {
        if (number == NONE) {
            return true;
        }
        if (number >= ruleCount || ruleIsSuffix[number] != suffix) {
            return false;
        }
        return ((stemFlags[stem] >> ruleFlags[number]) & 1) == 1;
    }

    private boolean goTogether(int suffix, int prefix) {
        if (suffix == NONE || prefix == NONE) {
            return true;
        }
        return ruleIsCross[suffix] && ruleIsCross[prefix];
    }

    private void startForm(int stem) {
        formStart = FORM_STEM_START;
        formEnd = FORM_STEM_START + stemLengths[stem];
        for (int i = 0; i < stemLengths[stem]; i++) {
            form[FORM_STEM_START + i] = stemLetters[stem * WORD_LETTERS + i];
        }
    }

    private boolean applySuffix(int number) {
        int strip = number * PARTS + STRIP;
        int append = number * PARTS + APPEND;
        int condition = number * PARTS + CONDITION;
        int stripStart = formEnd - ruleLengths[strip];
        int conditionStart = formEnd - ruleLengths[condition];
        if (!formMatches(strip, stripStart) || !formMatches(condition, conditionStart)) {
            return false;
        }
        formEnd = stripStart;
        writePart(append, formEnd);
        formEnd += ruleLengths[append];
        return true;
    }

    private boolean applyPrefix(int number) {
        int strip = number * PARTS + STRIP;
        int append = number * PARTS + APPEND;
        int condition = number * PARTS + CONDITION;
        if (!formMatches(strip, formStart) || !formMatches(condition, formStart)) {
            return false;
        }
        formStart = formStart + ruleLengths[strip] - ruleLengths[append];
        writePart(append, formStart);
        return true;
    }

    // Serves STRIP as well as CONDITION, since a STRIP never holds a 9.
    private boolean formMatches(int rulePart, int from) {
        if (from < formStart || from + ruleLengths[rulePart] > formEnd) {
            return false;
        }
        for (int i = 0; i < ruleLengths[rulePart]; i++) {
            int letter = ruleLetters[rulePart * PART_LETTERS + i];
            if (letter != ANY_LETTER && letter != form[from + i]) {
                return false;
            }
        }
        return true;
    }

    private void writePart(int rulePart, int from) {
        for (int i = 0; i < ruleLengths[rulePart]; i++) {
            form[from + i] = ruleLetters[rulePart * PART_LETTERS + i];
        }
    }

    private boolean formIsInBuffer(int length) {
        if (formEnd - formStart != length) {
            return false;
        }
        for (int i = 0; i < length; i++) {
            if (form[formStart + i] != buffer[i]) {
                return false;
            }
        }
        return true;
    }
}
