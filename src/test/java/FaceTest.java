import java.lang.reflect.Constructor;
import java.lang.reflect.Field;
import java.lang.reflect.Method;
import java.lang.reflect.Modifier;
import java.nio.file.Files;
import java.nio.file.Path;
import java.util.Arrays;
import java.util.Set;
import java.util.TreeSet;
import java.util.regex.Matcher;
import java.util.regex.Pattern;
import java.util.stream.Collectors;

/** The face of the class is the document's and no more; and what LANGUAGE.md says that can be seen from outside. */
public final class FaceTest {
    private static int wrong;

    private static void due(boolean as, String what) {
        if (!as) {
            wrong++;
            System.out.println("face: " + what);
        }
    }

    private static String method(Method m) {
        return m.getReturnType() + " " + m.getName() + Arrays.stream(m.getParameterTypes()).map(Class::toString)
            .collect(Collectors.joining(", ", "(", ")"));
    }

    private static Set<String> promised() throws Exception {
        Set<String> all = new TreeSet<>();
        String doc = Files.readString(Path.of("../shared/DOC.md"));
        String face = doc.substring(doc.indexOf("```java"), doc.indexOf("```\n", doc.indexOf("```java") + 7));
        Matcher m = Pattern.compile("public (int|long) (\\w+)\\(([^)]*)\\);").matcher(face);
        while (m.find()) {
            String types = Arrays.stream(m.group(3).split(",")).map(p -> p.trim().split(" ")[0])
                .collect(Collectors.joining(", "));
            all.add(m.group(1) + " " + m.group(2) + "(" + types + ")");
        }
        return all;
    }

    private static void constant(String name, long value) throws Exception {
        Field f = SeenWords.class.getDeclaredField(name);
        int is = f.getModifiers();
        due(Modifier.isPublic(is) && Modifier.isStatic(is) && Modifier.isFinal(is), name);
        due(f.getType() == (name.equals("LOST") ? long.class : int.class), name);
        due(((Number) f.get(null)).longValue() == value, name);
    }

    private static void insides(Set<String> names) {
        for (Class<?> inside : SeenWords.class.getDeclaredClasses()) {
            due(Modifier.isStatic(inside.getModifiers()), inside + " is not static");
            due(inside.getDeclaredFields().length <= 26, inside + " has many fields");
            for (Method m : inside.getDeclaredMethods()) due(!names.contains(m.getName()), m + " bears a public name");
            for (Field f : inside.getDeclaredFields())
                due(!Modifier.isStatic(f.getModifiers()) || Modifier.isFinal(f.getModifiers()), f + " is static state");
        }
        due(SeenWords.class.getDeclaredClasses().length <= 12, "many classes");
    }

    public static void main(String[] args) throws Exception {
        due(Modifier.isFinal(SeenWords.class.getModifiers()), "the class is final");
        due(Modifier.isPublic(SeenWords.class.getModifiers()), "the class is public");
        Constructor<?>[] made = SeenWords.class.getDeclaredConstructors();
        due(made.length == 1 && Modifier.isPublic(made[0].getModifiers()) && made[0].getParameterCount() == 0, "the constructor");
        Set<String> there = new TreeSet<>(), names = new TreeSet<>();
        for (Method m : SeenWords.class.getDeclaredMethods()) {
            if (Modifier.isPublic(m.getModifiers())) {
                there.add(method(m));
                names.add(m.getName());
            }
        }
        due(there.equals(promised()), "methods " + there + " are not " + promised());
        for (Method m : SeenWords.class.getDeclaredMethods()) {
            if (!Modifier.isPublic(m.getModifiers())) {
                due(Modifier.isPrivate(m.getModifiers()), m + " is not private");
                due(!names.contains(m.getName()), m + " bears a public name");
                due(m.getParameterCount() <= 7, m + " takes many parameters");
            }
        }
        Set<String> fields = new TreeSet<>();
        for (Field f : SeenWords.class.getDeclaredFields()) {
            if (Modifier.isPublic(f.getModifiers())) fields.add(f.getName());
            else due(Modifier.isPrivate(f.getModifiers()), f + " is not private");
            due(!Modifier.isStatic(f.getModifiers()) || Modifier.isFinal(f.getModifiers()), f + " is static state");
        }
        due(fields.equals(Set.of("UNKNOWN", "OUTSIDE", "STATE", "FULL", "GAP", "NONE", "LOST")), "constants " + fields);
        constant("UNKNOWN", -1);
        constant("OUTSIDE", -2);
        constant("STATE", -3);
        constant("FULL", -4);
        constant("GAP", -7);
        constant("NONE", -9);
        constant("LOST", Long.MIN_VALUE);
        insides(names);
        System.out.println(wrong == 0 ? "face: as the document has it" : "face: " + wrong + " wrong");
        if (wrong != 0) System.exit(1);
    }
}
