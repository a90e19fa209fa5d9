import java.lang.reflect.Constructor;
import java.lang.reflect.Field;
import java.lang.reflect.Method;
import java.lang.reflect.Modifier;
import java.nio.file.Files;
import java.nio.file.Path;
import java.util.Set;
import java.util.TreeSet;

/** The public face is the document's and no more; of LANGUAGE.md what can be seen without reading the code. */
public final class FaceTest {
    private static final Checks CHECKS = new Checks();
    private static final String[] FACE = {
        "int code(int,int)", "int of(int)", "int term(int)", "int word(int)", "int encode(int)", "int flip(int)",
        "int hurt(int,int)", "int now()", "int at(int)", "int weight()", "int isWord()", "int coefficient(int)",
        "int votes()", "int vote(int)", "int mends()", "int sign(int)", "int best(int)", "int nearest(int)",
        "int near()", "int soft(int,int)", "int harden(int)", "int halves()", "int merit(int)", "int weights(int)",
        "int perpendicular()", "int asked(int)", "int type(int)", "int clear()", "int does()", "int back()",
        "int told(int)", "long digest()"
    };
    private static final String[] WORDS_RULED_OUT = {
        "throw", "throws", "try", "catch", "finally", "synchronized", "assert", "package", "protected", "var", "Object",
        "Math.random", "System.out", "System.nanoTime", "System.currentTimeMillis", "hashCode", "toString"
    };

    public static void main(String[] args) throws Exception {
        CHECKS.part("face");
        face();
        constants();
        CHECKS.part("inside");
        inside();
        CHECKS.part("language");
        language(Files.readString(Path.of("src/main/java/PlusCodes.java")));
        CHECKS.end();
    }

    private static void face() {
        Class<?> c = PlusCodes.class;
        CHECKS.holds("the class is public and final", Modifier.isPublic(c.getModifiers()) && Modifier.isFinal(c.getModifiers()));
        Set<String> open = new TreeSet<>();
        Set<String> openNames = new TreeSet<>();
        for (Method m : c.getDeclaredMethods()) {
            if (!Modifier.isPrivate(m.getModifiers())) {
                CHECKS.holds(m + " is public and not static", Modifier.isPublic(m.getModifiers()) && !Modifier.isStatic(m.getModifiers()));
                open.add(signature(m));
                openNames.add(m.getName());
            }
        }
        CHECKS.holds("the public methods are the document's: " + open, open.equals(new TreeSet<>(Set.of(FACE))));
        for (Method m : c.getDeclaredMethods()) {
            CHECKS.holds(m + " bears no public name", !Modifier.isPrivate(m.getModifiers()) || !openNames.contains(m.getName()));
        }
        Constructor<?>[] made = c.getDeclaredConstructors();
        CHECKS.holds("one public constructor without arguments",
            made.length == 1 && Modifier.isPublic(made[0].getModifiers()) && made[0].getParameterCount() == 0);
    }

    private static String signature(Method m) {
        StringBuilder s = new StringBuilder(m.getReturnType().getName() + " " + m.getName() + "(");
        for (int k = 0; k < m.getParameterCount(); k++) {
            s.append(k == 0 ? "" : ",").append(m.getParameterTypes()[k].getName());
        }
        return s.append(")").toString();
    }

    private static void constants() throws Exception {
        String[] names = {"NONE", "BAD", "NO", "FULL"};
        for (int k = 0; k < 4; k++) {
            Field f = PlusCodes.class.getDeclaredField(names[k]);
            CHECKS.holds(names[k] + " is public static final", f.getModifiers() == (Modifier.PUBLIC | Modifier.STATIC | Modifier.FINAL));
            CHECKS.due(names[k], f.getInt(null), -1 - k);
        }
        int open = 0;
        for (Field f : PlusCodes.class.getDeclaredFields()) {
            open += Modifier.isPrivate(f.getModifiers()) ? 0 : 1;
            CHECKS.holds(f + " is final if it is static", !Modifier.isStatic(f.getModifiers()) || Modifier.isFinal(f.getModifiers()));
        }
        CHECKS.due("fields that are not private", open, 4);
    }

    private static void inside() {
        Class<?>[] all = PlusCodes.class.getDeclaredClasses();
        CHECKS.holds("twelve classes at most", all.length < 12);
        for (Class<?> c : all) {
            int how = c.getModifiers();
            CHECKS.holds(c + " is static and not open", Modifier.isStatic(how) && !Modifier.isPublic(how) && !Modifier.isProtected(how));
            CHECKS.holds(c + " has some twenty fields", c.getDeclaredFields().length <= 20);
            for (Method m : c.getDeclaredMethods()) {
                CHECKS.holds(m + " has seven parameters at most", m.getParameterCount() <= 7);
            }
        }
    }

    private static void language(String source) {
        String code = source.replaceAll("(?s)/\\*.*?\\*/", "").replaceAll("//[^\n]*", "");
        for (String word : WORDS_RULED_OUT) {
            CHECKS.holds("no '" + word + "'", !code.matches("(?s).*\\b" + word.replace(".", "\\.") + "\\b.*"));
        }
        CHECKS.holds("no lambda, no method reference", !code.contains("->") && !code.contains("::"));
        CHECKS.holds("no annotation", !code.contains("@"));
        for (String line : code.split("\n")) {
            if (line.startsWith("import")) {
                CHECKS.holds(line, line.equals("import java.util.Arrays;"));
            }
        }
        CHECKS.holds("texts of signs 1 to 127", source.chars().allMatch(c -> c > 0 && c < 128));
    }
}
