import java.lang.reflect.Constructor;
import java.lang.reflect.Field;
import java.lang.reflect.Method;
import java.lang.reflect.Modifier;
import java.util.Set;
import java.util.TreeSet;

/** The class shows the public face of the document and nothing beside it. */
public final class FaceTest {
    private static int wrong = 0;

    private static void due(String what, Object got, Object want) {
        if (!got.equals(want)) {
            wrong++;
            System.out.println(what + " is " + got + ", due is " + want);
        }
    }

    private static Set<String> visibleMethods() {
        Set<String> found = new TreeSet<>();
        for (Method m : AffixSpeller.class.getDeclaredMethods()) {
            if (!Modifier.isPrivate(m.getModifiers())) {
                found.add(m.toString());
            }
        }
        return found;
    }

    private static Set<String> visibleFields() {
        Set<String> found = new TreeSet<>();
        for (Field f : AffixSpeller.class.getDeclaredFields()) {
            if (!Modifier.isPrivate(f.getModifiers())) {
                found.add(f.toString());
            }
        }
        return found;
    }

    private static Set<String> visibleConstructors() {
        Set<String> found = new TreeSet<>();
        for (Constructor<?> c : AffixSpeller.class.getDeclaredConstructors()) {
            found.add(c.toString());
        }
        return found;
    }

    public static void main(String[] args) {
        due("the class", Modifier.toString(AffixSpeller.class.getModifiers()), "public final");
        due("the constructors", visibleConstructors(), Set.of("public AffixSpeller()"));
        due("the methods", visibleMethods(), Set.of(
            "public int AffixSpeller.type(int)",
            "public void AffixSpeller.erase()",
            "public int AffixSpeller.keep(int)",
            "public int AffixSpeller.rule(int,boolean,boolean)",
            "public int AffixSpeller.stem(int)",
            "public int AffixSpeller.reflag(int,int)",
            "public int AffixSpeller.length()",
            "public int AffixSpeller.derivations()",
            "public int AffixSpeller.stemOf(int)",
            "public int AffixSpeller.suffixOf(int)",
            "public int AffixSpeller.prefixOf(int)",
            "public int AffixSpeller.continuations()"));
        due("the fields", visibleFields(), Set.of(
            "public static final int AffixSpeller.BAD_LETTER",
            "public static final int AffixSpeller.FULL",
            "public static final int AffixSpeller.BAD_WORD",
            "public static final int AffixSpeller.BAD_PART",
            "public static final int AffixSpeller.BAD_FLAG",
            "public static final int AffixSpeller.NONE"));
        due("BAD_LETTER", AffixSpeller.BAD_LETTER, -1);
        due("FULL", AffixSpeller.FULL, -2);
        due("BAD_WORD", AffixSpeller.BAD_WORD, -3);
        due("BAD_PART", AffixSpeller.BAD_PART, -4);
        due("BAD_FLAG", AffixSpeller.BAD_FLAG, -5);
        due("NONE", AffixSpeller.NONE, -6);
        System.out.println(wrong == 0 ? "the face is as due" : wrong + " parts of the face are not as due");
        if (wrong != 0) {
            System.exit(1);
        }
    }
}
