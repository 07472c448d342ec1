import java.lang.reflect.Constructor;
import java.lang.reflect.Field;
import java.lang.reflect.Method;
import java.lang.reflect.Modifier;
import java.util.ArrayList;
import java.util.Arrays;
import java.util.HashSet;
import java.util.List;
import java.util.Set;

/** The document's public face: its constants, constructor and methods, and nothing else that can be seen. */
public final class FaceTest {
    private static final Check CHECK = new Check("FaceTest");
    private static final String CONSTANT = "public static final int ", CONSTRUCTOR = "public LayeredCharters();";
    private static final String METHOD = "public int ";
    private static final List<String> CONSTANTS = new ArrayList<>();
    private static final List<String> METHODS = new ArrayList<>();

    public static void main(String[] args) throws IllegalAccessException {
        Class<?> face = LayeredCharters.class;
        CHECK.part("the class");
        CHECK.is("modifiers", face.getModifiers(), Modifier.PUBLIC | Modifier.FINAL);
        CHECK.isText("superclass", face.getSuperclass().getName(), "java.lang.Object");
        CHECK.is("interfaces", face.getInterfaces().length, 0);
        readDocument();
        constants(face);
        constructor(face);
        methods(face);
        for (Class<?> inside : face.getDeclaredClasses()) {
            int seen = inside.getModifiers() & (Modifier.PUBLIC | Modifier.PROTECTED | Modifier.STATIC);
            CHECK.is("modifiers of " + inside.getName(), seen, Modifier.STATIC);
        }
        CHECK.end();
    }

    private static void readDocument() {
        CHECK.part("the document's face");
        int constructors = 0;
        for (String line : new Document().face()) {
            String bare = line.replaceAll(";$", "");
            if (line.startsWith(CONSTANT)) CONSTANTS.addAll(List.of(bare.substring(CONSTANT.length()).split(", ")));
            else if (line.startsWith(METHOD)) METHODS.add(typesOnly(bare.substring(METHOD.length())));
            else if (line.equals(CONSTRUCTOR)) constructors++;
            else CHECK.isText("a line that is none of these", line, "");
        }
        CHECK.is("constants", CONSTANTS.size(), 10);
        CHECK.is("constructors", constructors, 1);
        CHECK.is("methods", METHODS.size(), 25);
    }

    /** A method's line, "add(int layer, int kind)", as "add(int,int)". */
    private static String typesOnly(String line) {
        return line.replaceAll(" \\w+(?=[,)])", "").replace(" ", "");
    }

    private static String sorted(List<String> names) {
        String[] all = names.toArray(new String[0]);
        Arrays.sort(all);
        return String.join(" | ", all);
    }

    private static void constants(Class<?> face) throws IllegalAccessException {
        CHECK.part("constants");
        List<String> seen = new ArrayList<>();
        for (Field field : face.getDeclaredFields()) {
            if (Modifier.isPrivate(field.getModifiers())) continue;
            CHECK.is("modifiers of " + field, field.getModifiers(), Modifier.PUBLIC | Modifier.STATIC | Modifier.FINAL);
            CHECK.isText("type of " + field, field.getType().getName(), "int");
            seen.add(field.getName() + " = " + field.getInt(null));
        }
        CHECK.isText("all", sorted(seen), sorted(CONSTANTS));
    }

    private static void constructor(Class<?> face) {
        CHECK.part("constructor");
        Constructor<?>[] all = face.getDeclaredConstructors();
        CHECK.is("how many", all.length, 1);
        CHECK.is("modifiers", all[0].getModifiers(), Modifier.PUBLIC);
        CHECK.is("parameters", all[0].getParameterCount(), 0);
    }

    private static void methods(Class<?> face) {
        CHECK.part("methods");
        List<String> seen = new ArrayList<>();
        Set<String> names = new HashSet<>();
        for (String method : METHODS) names.add(method.substring(0, method.indexOf('(')));
        for (Method method : face.getDeclaredMethods()) {
            if (method.isSynthetic()) continue;
            if (Modifier.isPrivate(method.getModifiers())) {
                CHECK.is("a private method with the name of a public one: " + method, names.contains(method.getName()) ? 1 : 0, 0);
                continue;
            }
            CHECK.is("modifiers of " + method, method.getModifiers(), Modifier.PUBLIC);
            CHECK.isText("type of " + method, method.getReturnType().getName(), "int");
            List<String> types = new ArrayList<>();
            for (Class<?> type : method.getParameterTypes()) types.add(type.getName());
            seen.add(method.getName() + "(" + String.join(",", types) + ")");
        }
        CHECK.isText("all", sorted(seen), sorted(METHODS));
    }
}
