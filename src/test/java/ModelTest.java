import java.util.ArrayList;
import java.util.List;

/**
 * Makes fixed runs of mixed calls, and compares each answer with a model that holds words as
 * strings of digits and lists the derivations by the words of the document.
 */
public final class ModelTest {
    private static final int RUNS = 600;
    private static final int CALLS = 500; // the document allows 512 to one object
    private static final int NONE = -6;

    private static final class Rule {
        String strip;
        String append;
        String condition;
        int flag;
        boolean suffix;
        boolean cross;

        /** What comes of the word, or null if the rule can't be applied to it. */
        String applied(String word) {
            if (word.length() < condition.length() || word.length() < strip.length()) {
                return null;
            }
            String pattern = condition.replace('9', '.');
            int length = condition.length();
            if (suffix) {
                boolean can = word.endsWith(strip) && word.substring(word.length() - length).matches(pattern);
                return can ? word.substring(0, word.length() - strip.length()) + append : null;
            }
            boolean can = word.startsWith(strip) && word.substring(0, length).matches(pattern);
            return can ? append + word.substring(strip.length()) : null;
        }
    }

    private static final class Model {
        String buffer = "";
        final String[] parts = {"", "", ""};
        final List<Rule> rules = new ArrayList<>();
        final List<String> stems = new ArrayList<>();
        final List<Integer> flags = new ArrayList<>();

        int type(int letter) {
            if (letter < 1 || letter > 9) {
                return -1;
            }
            if (buffer.length() == 12) {
                return -2;
            }
            buffer += letter;
            return buffer.length();
        }

        int keep(int part) {
            if (part < 0 || part > 2) {
                return -4;
            }
            if (buffer.length() > 3 || (buffer.contains("9") && part != 2)) {
                return -3;
            }
            parts[part] = buffer;
            buffer = "";
            return parts[part].length();
        }

        int rule(int flag, boolean suffix, boolean cross) {
            if (flag < 0 || flag > 7) {
                return -5;
            }
            if (rules.size() == 10) {
                return -2;
            }
            Rule r = new Rule();
            r.strip = parts[0];
            r.append = parts[1];
            r.condition = parts[2];
            r.flag = flag;
            r.suffix = suffix;
            r.cross = cross;
            rules.add(r);
            return rules.size() - 1;
        }

        int stem(int flagBits) {
            if (buffer.isEmpty() || buffer.contains("9")) {
                return -3;
            }
            if (stems.size() == 12) {
                return -2;
            }
            stems.add(buffer);
            flags.add(flagBits & 255);
            buffer = "";
            return stems.size() - 1;
        }

        int reflag(int s, int flagBits) {
            if (s < 0 || s >= stems.size()) {
                return NONE;
            }
            return flags.set(s, flagBits & 255);
        }

        /** Every form of every stem, with its triple, in the order of the document. */
        void listForms(List<String> forms, List<int[]> triples) {
            for (int s = 0; s < stems.size(); s++) {
                for (int suffix = -1; suffix < rules.size(); suffix++) {
                    if (!allows(s, suffix, true)) {
                        continue;
                    }
                    String middle = suffix < 0 ? stems.get(s) : rules.get(suffix).applied(stems.get(s));
                    for (int prefix = -1; middle != null && prefix < rules.size(); prefix++) {
                        if (!allows(s, prefix, false) || !cross(suffix, prefix)) {
                            continue;
                        }
                        String form = prefix < 0 ? middle : rules.get(prefix).applied(middle);
                        if (form != null) {
                            forms.add(form);
                            triples.add(new int[] {s, suffix < 0 ? NONE : suffix, prefix < 0 ? NONE : prefix});
                        }
                    }
                }
            }
        }

        private boolean allows(int s, int r, boolean suffix) {
            return r < 0 || (rules.get(r).suffix == suffix && (flags.get(s) & (1 << rules.get(r).flag)) != 0);
        }

        private boolean cross(int suffix, int prefix) {
            return suffix < 0 || prefix < 0 || (rules.get(suffix).cross && rules.get(prefix).cross);
        }

        List<int[]> derivations(String word) {
            List<String> forms = new ArrayList<>();
            List<int[]> triples = new ArrayList<>();
            listForms(forms, triples);
            List<int[]> found = new ArrayList<>();
            for (int i = 0; i < forms.size(); i++) {
                if (!word.isEmpty() && forms.get(i).equals(word)) {
                    found.add(triples.get(i));
                }
            }
            return found;
        }

        int partOf(int n, int which) {
            List<int[]> found = derivations(buffer);
            return n < 0 || n >= found.size() ? NONE : found.get(n)[which];
        }

        int continuations() {
            if (buffer.length() == 12 || buffer.contains("9")) {
                return 0;
            }
            int count = 0;
            for (int letter = 1; letter <= 8; letter++) {
                count += derivations(buffer + letter).isEmpty() ? 0 : 1;
            }
            return count;
        }
    }

    private static int wrong = 0;
    private static long state = 1;
    private static int run;
    private static int calls;
    private static AffixSpeller real;
    private static Model model;
    private static StringBuilder story;

    /** A fixed sequence of numbers: every start of the test makes the same runs. */
    private static int pick(int bound) {
        state = state * 6364136223846793005L + 1442695040888963407L;
        return (int) ((state >>> 33) % bound);
    }

    private static void due(String call, int got, int want) {
        calls++;
        story.append(call).append(' ');
        if (got != want) {
            wrong++;
            if (wrong <= 5) {
                System.out.println("run " + run + ": " + story + "answered " + got + ", due is " + want);
            }
        }
    }

    private static void type(int letter) {
        due("type(" + letter + ")", real.type(letter), model.type(letter));
    }

    private static void erase() {
        calls++;
        story.append("erase() ");
        real.erase();
        model.buffer = "";
    }

    private static void spell(String word) {
        erase();
        for (int i = 0; i < word.length(); i++) {
            type(word.charAt(i) - '0');
        }
    }

    private static String pickWord(int most, int letters) {
        StringBuilder word = new StringBuilder();
        int length = pick(most + 1);
        for (int i = 0; i < length; i++) {
            word.append(1 + pick(letters));
        }
        return word.toString();
    }

    private static int pickWrong(int good) {
        int[] bad = {-1, good, good + 1, Integer.MIN_VALUE, Integer.MAX_VALUE};
        return bad[pick(bad.length)];
    }

    private static int pickFlags() {
        int[] wide = {255, -1, 256, Integer.MIN_VALUE};
        return pick(6) == 0 ? wide[pick(wide.length)] : pick(256) | pick(256);
    }

    /** Keeps a part; now and then one with too many letters, or with a 9 where none is good. */
    private static void keepPart(int part, int letters) {
        String word = pickWord(pick(12) == 0 ? 6 : pick(4), letters);
        boolean nine = pick(part == 2 ? 2 : 12) == 0;
        if (nine && !word.isEmpty()) {
            int at = pick(word.length());
            word = word.substring(0, at) + "9" + word.substring(at + 1);
        }
        spell(word);
        int asked = pick(20) == 0 ? pickWrong(3) : part;
        due("keep(" + asked + ")", real.keep(asked), model.keep(asked));
    }

    private static void addRule(int letters) {
        for (int part = 0; part < 3; part++) {
            if (pick(4) != 0) {
                keepPart(part, letters);
            }
        }
        int flag = pick(12) == 0 ? pickWrong(8) : pick(8);
        boolean suffix = pick(2) == 0;
        boolean cross = pick(3) != 0;
        due("rule(" + flag + "," + suffix + "," + cross + ")",
            real.rule(flag, suffix, cross), model.rule(flag, suffix, cross));
    }

    private static void addStem(int letters) {
        spell(pickWord(pick(4) == 0 ? 12 : 4, letters));
        if (pick(12) == 0) {
            type(9);
        }
        int flags = pickFlags();
        due("stem(" + flags + ")", real.stem(flags), model.stem(flags));
    }

    private static void reflag() {
        int s = pick(5) == 0 ? pickWrong(12) : pick(12);
        int flags = pickFlags();
        due("reflag(" + s + "," + flags + ")", real.reflag(s, flags), model.reflag(s, flags));
    }

    /** Spells a form of a stem, or a little less or more than it, so that most questions have answers. */
    private static void spellForm(int letters) {
        List<String> forms = new ArrayList<>();
        model.listForms(forms, new ArrayList<>());
        if (forms.isEmpty() || pick(6) == 0) {
            spell(pickWord(4, letters));
            return;
        }
        String form = forms.get(pick(forms.size()));
        if (pick(3) == 0 && !form.isEmpty()) {
            form = form.substring(0, form.length() - 1);
        }
        spell(form);
        if (pick(8) == 0) {
            type(1 + pick(9));
        }
    }

    private static void ask() {
        int count = model.derivations(model.buffer).size();
        due("length()", real.length(), model.buffer.length());
        due("derivations()", real.derivations(), count);
        for (int times = 0; times < 3; times++) {
            int n = pick(6) == 0 ? pickWrong(count) : pick(count + 1);
            due("stemOf(" + n + ")", real.stemOf(n), model.partOf(n, 0));
            due("suffixOf(" + n + ")", real.suffixOf(n), model.partOf(n, 1));
            due("prefixOf(" + n + ")", real.prefixOf(n), model.partOf(n, 2));
        }
        due("continuations()", real.continuations(), model.continuations());
        due("length()", real.length(), model.buffer.length());
    }

    private static void step(int letters) {
        switch (pick(10)) {
            case 0: case 1: addStem(letters); break;
            case 2: case 3: addRule(letters); break;
            case 4: reflag(); break;
            case 5: type(pick(6) == 0 ? pickWrong(10) : pick(11)); break;
            default: spellForm(letters); ask(); break;
        }
    }

    public static void main(String[] args) {
        for (run = 0; run < RUNS; run++) {
            real = new AffixSpeller();
            model = new Model();
            story = new StringBuilder();
            calls = 0;
            int letters = run % 10 == 0 ? 8 : 1 + pick(3);
            // No step makes more than 40 calls.
            while (calls < CALLS - 40) {
                step(letters);
            }
        }
        System.out.println(wrong == 0 ? "the model agrees" : wrong + " answers are not the model's");
        if (wrong != 0) {
            System.exit(1);
        }
    }
}
