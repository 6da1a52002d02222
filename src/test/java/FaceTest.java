import java.lang.reflect.Constructor;
import java.lang.reflect.Field;
import java.lang.reflect.Method;
import java.lang.reflect.Modifier;
import java.nio.charset.StandardCharsets;
import java.nio.file.Files;
import java.nio.file.Path;
import java.util.ArrayList;
import java.util.Arrays;
import java.util.Collections;
import java.util.List;
import java.util.Set;
import java.util.TreeSet;
import java.util.stream.Collectors;

/** The class shows the document's face and no other member. */
public final class FaceTest {
    private FaceTest() {
    }

    public static void main(String[] arguments) throws Exception {
        Checks checks = new Checks();
        checks.due(0, "public methods", shown(), written());
        for (Method method : TailorWorkshop.class.getDeclaredMethods()) {
            boolean open = Modifier.isPublic(method.getModifiers()) || Modifier.isPrivate(method.getModifiers());
            checks.due(0, method.getName() + " is public or private", open, true);
        }
        for (Field field : TailorWorkshop.class.getDeclaredFields()) {
            checks.due(0, field.getName() + " is private", Modifier.isPrivate(field.getModifiers()), true);
        }
        Constructor<?>[] constructors = TailorWorkshop.class.getDeclaredConstructors();
        checks.due(0, "constructors", constructors.length, 1);
        checks.due(0, "modifiers", Modifier.toString(TailorWorkshop.class.getModifiers()), "public final");
        checks.due(0, "names of private methods", shared(), new TreeSet<String>());
        checks.end();
    }

    private static List<String> shown() {
        List<String> rows = new ArrayList<>();
        for (Method method : TailorWorkshop.class.getDeclaredMethods()) {
            if (Modifier.isPublic(method.getModifiers())) {
                rows.add(method.getReturnType() + " " + method.getName() + names(method.getParameterTypes())
                        + names(method.getExceptionTypes()));
            }
        }
        Collections.sort(rows);
        return rows;
    }

    private static String names(Class<?>[] types) {
        return Arrays.stream(types).map(Class::getSimpleName).collect(Collectors.joining(",", "(", ")"));
    }

    /** The methods as the document's section "The public face" writes them. */
    private static List<String> written() throws Exception {
        List<String> rows = new ArrayList<>();
        String text = Files.readString(Path.of("../shared/DOC.md"), StandardCharsets.UTF_8);
        String face = text.substring(text.indexOf("```java"), text.indexOf("## Terms"));
        for (String line : face.split("\n")) {
            String row = line.trim().replace("public ", "").replace(";", "");
            if (line.startsWith("    public ") && !row.startsWith("TailorWorkshop(")) {
                rows.add(typed(row));
            }
        }
        Collections.sort(rows);
        return rows;
    }

    private static String typed(String row) {
        String head = row.substring(0, row.indexOf('('));
        String inside = row.substring(row.indexOf('(') + 1, row.indexOf(')'));
        int mark = row.indexOf(" throws ");
        String thrown = mark < 0 ? "" : row.substring(mark + " throws ".length()).replace(" ", "");
        String types = Arrays.stream(inside.split(", ")).map(p -> p.split(" ")[0]).collect(Collectors.joining(","));
        return head + "(" + types + ")(" + thrown + ")";
    }

    /** The names that a private method, here or in a class inside, shares with a public one. */
    private static Set<String> shared() {
        Set<String> open = new TreeSet<>();
        Set<String> hidden = new TreeSet<>();
        for (Method method : TailorWorkshop.class.getDeclaredMethods()) {
            (Modifier.isPublic(method.getModifiers()) ? open : hidden).add(method.getName());
        }
        for (Class<?> inner : TailorWorkshop.class.getDeclaredClasses()) {
            for (Method method : inner.getDeclaredMethods()) {
                hidden.add(method.getName());
            }
        }
        hidden.retainAll(open);
        return hidden;
    }
}
