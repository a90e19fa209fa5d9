import java.lang.reflect.Constructor;
import java.lang.reflect.Field;
import java.lang.reflect.Method;
import java.lang.reflect.Modifier;
import java.nio.file.Files;
import java.nio.file.Path;
import java.util.Set;
import java.util.TreeSet;
import java.util.regex.Matcher;
import java.util.regex.Pattern;

/** The public face is the one that stands in the document, and nothing beside it. */
public final class FaceTest {
    private static final Checks CHECKS = new Checks();
    private static final Pattern BLOCK = Pattern.compile("(?ms)^```java\n(public final class PlusCodes .*?)^```$");
    private static final Pattern CONSTANT = Pattern.compile("([A-Z]+) = (-?\\d+)[,;]");
    private static final Pattern METHOD = Pattern.compile("public (int|long) (\\w+)\\((.*?)\\);");
    private static final int METHODS = 32;
    private static final int CONSTANTS = 4;

    public static void main(String[] args) throws Exception {
        CHECKS.part("face");
        Matcher block = BLOCK.matcher(Files.readString(Path.of("../shared/DOC.md")));
        CHECKS.holds("the document tells the face", block.find());
        String face = block.group(1);
        itself();
        methods(face);
        constants(face);
        CHECKS.part("inside");
        inside();
        CHECKS.end();
    }

    private static void itself() {
        Class<?> c = PlusCodes.class;
        CHECKS.due("the class is public and final", c.getModifiers(), Modifier.PUBLIC | Modifier.FINAL);
        CHECKS.holds("it is a class of its own", c.getSuperclass() == Object.class && c.getInterfaces().length == 0);
        CHECKS.holds("it has no package", c.getPackageName().isEmpty());
        Constructor<?>[] made = c.getDeclaredConstructors();
        CHECKS.holds("one public constructor without arguments",
            made.length == 1 && Modifier.isPublic(made[0].getModifiers()) && made[0].getParameterCount() == 0);
    }

    private static void methods(String face) {
        Set<String> due = new TreeSet<>();
        Set<String> names = new TreeSet<>();
        Matcher method = METHOD.matcher(face);
        while (method.find()) {
            due.add(method.group(1) + " " + method.group(2) + "(" + method.group(3).replaceAll(" \\w+(, )?", "$1") + ")");
            names.add(method.group(2));
        }
        CHECKS.due("methods of the document", due.size(), METHODS);
        Set<String> open = new TreeSet<>();
        for (Method m : PlusCodes.class.getDeclaredMethods()) {
            if (Modifier.isPrivate(m.getModifiers())) {
                CHECKS.holds(m + " bears no public name", !names.contains(m.getName()));
            } else {
                CHECKS.due("how " + m + " is open", m.getModifiers(), Modifier.PUBLIC);
                open.add(signature(m));
            }
        }
        CHECKS.holds("the public methods " + open + " are the document's " + due, open.equals(due));
    }

    private static String signature(Method m) {
        StringBuilder s = new StringBuilder(m.getReturnType().getName() + " " + m.getName() + "(");
        for (int k = 0; k < m.getParameterCount(); k++) {
            s.append(k == 0 ? "" : ", ").append(m.getParameterTypes()[k].getName());
        }
        return s.append(")").toString();
    }

    private static void constants(String face) throws Exception {
        Set<String> due = new TreeSet<>();
        Matcher constant = CONSTANT.matcher(face);
        while (constant.find()) {
            due.add(constant.group(1));
            Field f = PlusCodes.class.getDeclaredField(constant.group(1));
            CHECKS.due("how " + f + " is open", f.getModifiers(), Modifier.PUBLIC | Modifier.STATIC | Modifier.FINAL);
            CHECKS.holds(f + " is an int", f.getType() == int.class);
            CHECKS.due(constant.group(1), f.getInt(null), Integer.parseInt(constant.group(2)));
        }
        CHECKS.due("constants of the document", due.size(), CONSTANTS);
        Set<String> open = new TreeSet<>();
        for (Field f : PlusCodes.class.getDeclaredFields()) {
            if (!Modifier.isPrivate(f.getModifiers())) {
                open.add(f.getName());
            }
        }
        CHECKS.holds("the fields that are not private " + open + " are the document's " + due, open.equals(due));
    }

    private static void inside() {
        for (Class<?> c : PlusCodes.class.getDeclaredClasses()) {
            int how = c.getModifiers();
            CHECKS.holds(c + " is static and not open", Modifier.isStatic(how) && !Modifier.isPublic(how) && !Modifier.isProtected(how));
        }
    }
}
