import java.lang.reflect.Constructor;
import java.lang.reflect.Field;
import java.lang.reflect.Method;
import java.lang.reflect.Modifier;
import java.util.ArrayList;
import java.util.Arrays;
import java.util.HashSet;
import java.util.List;
import java.util.Set;

/** The document's public face: its constants, constructor and methods, and nothing else that can be seen. */
public final class FaceTest {
    private static final Check CHECK = new Check("FaceTest");
    private static final String[] CONSTANTS = {
        "NO_SUCH = -1", "BAD_VALUE = -2", "BAD_TEXT = -3", "TOO_MANY = -4", "NOT_POSSIBLE = -5", "NONE = -6",
        "PERMIT = 0", "BAN = 1", "WAIVER = 2", "NOT_PERMITTED = 100"};
    private static final String[] METHODS = {
        "add(int,int,int,int,int)", "strike(int)", "seal(int,int)", "move(int,int)", "read()", "tidy()", "join(int,int)",
        "leave(int)", "rank(int,int)", "act(int,int)", "rule(int,int)", "member(int,int)", "allowed(int,int,int,int)",
        "why(int,int,int)", "count(int)", "leastRank(int,int)", "ifStruck(int)", "worstBan()", "bestWaiver(int)",
        "put(long)", "wipe()", "fault()", "undo()", "save(int)", "restore(int)"};

    public static void main(String[] args) throws IllegalAccessException {
        Class<?> face = LayeredCharters.class;
        CHECK.part("the class");
        CHECK.is("modifiers", face.getModifiers(), Modifier.PUBLIC | Modifier.FINAL);
        CHECK.isText("superclass", face.getSuperclass().getName(), "java.lang.Object");
        CHECK.is("interfaces", face.getInterfaces().length, 0);
        constants(face);
        constructor(face);
        methods(face);
        for (Class<?> inside : face.getDeclaredClasses()) {
            int seen = inside.getModifiers() & (Modifier.PUBLIC | Modifier.PROTECTED | Modifier.STATIC);
            CHECK.is("modifiers of " + inside.getName(), seen, Modifier.STATIC);
        }
        CHECK.end();
    }

    private static String sorted(List<String> names) {
        String[] all = names.toArray(new String[0]);
        Arrays.sort(all);
        return String.join(" | ", all);
    }

    private static void constants(Class<?> face) throws IllegalAccessException {
        CHECK.part("constants");
        List<String> seen = new ArrayList<>();
        for (Field field : face.getDeclaredFields()) {
            if (Modifier.isPrivate(field.getModifiers())) continue;
            CHECK.is("modifiers of " + field, field.getModifiers(), Modifier.PUBLIC | Modifier.STATIC | Modifier.FINAL);
            CHECK.isText("type of " + field, field.getType().getName(), "int");
            seen.add(field.getName() + " = " + field.getInt(null));
        }
        CHECK.isText("all", sorted(seen), sorted(Arrays.asList(CONSTANTS)));
    }

    private static void constructor(Class<?> face) {
        CHECK.part("constructor");
        Constructor<?>[] all = face.getDeclaredConstructors();
        CHECK.is("how many", all.length, 1);
        CHECK.is("modifiers", all[0].getModifiers(), Modifier.PUBLIC);
        CHECK.is("parameters", all[0].getParameterCount(), 0);
    }

    private static void methods(Class<?> face) {
        CHECK.part("methods");
        List<String> seen = new ArrayList<>();
        Set<String> names = new HashSet<>();
        for (String method : METHODS) names.add(method.substring(0, method.indexOf('(')));
        for (Method method : face.getDeclaredMethods()) {
            if (method.isSynthetic()) continue;
            if (Modifier.isPrivate(method.getModifiers())) {
                CHECK.is("a private method with the name of a public one: " + method, names.contains(method.getName()) ? 1 : 0, 0);
                continue;
            }
            CHECK.is("modifiers of " + method, method.getModifiers(), Modifier.PUBLIC);
            CHECK.isText("type of " + method, method.getReturnType().getName(), "int");
            List<String> types = new ArrayList<>();
            for (Class<?> type : method.getParameterTypes()) types.add(type.getName());
            seen.add(method.getName() + "(" + String.join(",", types) + ")");
        }
        CHECK.isText("all", sorted(seen), sorted(Arrays.asList(METHODS)));
    }
}
