import java.io.IOException;
import java.lang.reflect.Field;
import java.lang.reflect.Method;
import java.lang.reflect.Modifier;
import java.nio.file.Files;
import java.nio.file.Path;
import java.util.ArrayList;
import java.util.HashMap;
import java.util.List;
import java.util.Map;
import java.util.Set;
import java.util.TreeSet;
import java.util.regex.Matcher;
import java.util.regex.Pattern;
import java.util.stream.Stream;

/** README.md's calls answer what it says behind them; the methods, codes and tests that it names are those that there are. */
public final class ReadmeTest {
    private static final Check CHECK = new Check("ReadmeTest");
    private static final Pattern NEW = Pattern.compile("LayeredCharters (\\w+) = new LayeredCharters\\(\\);");
    private static final Pattern CALL = Pattern.compile("(?:int (\\w+) = )?(\\w+)\\.(\\w+)\\((.*)\\); +// (-?\\w+)(?::.*)?");
    private static final Pattern BLOCK = Pattern.compile("(?s)```java\n(.*?)```");
    private static final Pattern CODE = Pattern.compile("`([A-Z_]+)` \\((-\\d)\\)");

    private final Map<String, LayeredCharters> objects = new HashMap<>();
    private final Map<String, Long> numbers = new HashMap<>();

    public static void main(String[] args) throws IOException, ReflectiveOperationException {
        String page = Files.readString(Path.of("README.md"));
        CHECK.part("calls");
        Matcher block = BLOCK.matcher(page);
        int blocks = 0;
        while (block.find()) {
            blocks++;
            new ReadmeTest().rows(block.group(1));
        }
        CHECK.is("it shows calls", blocks > 0 ? 1 : 0, 1);
        methods(page);
        codes(page);
        tests(page);
        CHECK.end();
    }

    private void rows(String block) throws ReflectiveOperationException {
        for (Field field : LayeredCharters.class.getFields()) {
            numbers.put(field.getName(), (long) field.getInt(null));
            numbers.put("LayeredCharters." + field.getName(), (long) field.getInt(null));
        }
        for (String row : block.split("\n")) {
            if (row.isEmpty()) continue;
            Matcher made = NEW.matcher(row);
            Matcher call = CALL.matcher(row);
            if (made.matches()) objects.put(made.group(1), new LayeredCharters());
            else if (call.matches() && objects.containsKey(call.group(2))) call(row, call);
            else CHECK.isText("a row that is no call with its answer", row, "");
        }
    }

    private void call(String row, Matcher call) throws ReflectiveOperationException {
        List<Long> values = new ArrayList<>();
        for (String value : call.group(4).split(", ")) {
            if (!value.isEmpty()) values.add(number(value));
        }
        long answer = ask(objects.get(call.group(2)), call.group(3), values);
        CHECK.is(row, answer, number(call.group(5)));
        if (call.group(1) != null) numbers.put(call.group(1), answer);
    }

    private long number(String text) {
        return numbers.containsKey(text) ? numbers.get(text) : Long.decode(text.replace("_", "").replace("L", ""));
    }

    private static long ask(LayeredCharters x, String name, List<Long> values) throws ReflectiveOperationException {
        for (Method method : publicMethods()) {
            Class<?>[] types = method.getParameterTypes();
            if (!method.getName().equals(name) || types.length != values.size()) continue;
            Object[] given = new Object[types.length];
            for (int i = 0; i < types.length; i++) {
                if (types[i] == int.class) given[i] = Math.toIntExact(values.get(i));
                else given[i] = values.get(i);
            }
            return (int) method.invoke(x, given);
        }
        throw new NoSuchMethodException(name + " of " + values.size() + " values");
    }

    private static List<Method> publicMethods() {
        List<Method> methods = new ArrayList<>();
        for (Method method : LayeredCharters.class.getDeclaredMethods()) {
            if (Modifier.isPublic(method.getModifiers())) methods.add(method);
        }
        return methods;
    }

    /** The first cells of the table's rows, from the heading on to its end. */
    private static List<String> firstCells(String page, String heading) {
        List<String> cells = new ArrayList<>();
        int start = page.indexOf(heading);
        CHECK.is("the table " + heading, start >= 0 ? 1 : 0, 1);
        for (String row : page.substring(Math.max(start, 0)).split("\n")) {
            if (!row.startsWith("|")) break;
            cells.add(row.split("\\|")[1].strip());
        }
        return cells.subList(Math.min(2, cells.size()), cells.size());
    }

    private static void methods(String page) {
        CHECK.part("methods");
        Set<String> named = new TreeSet<>();
        for (String cell : firstCells(page, "| methods |")) named.addAll(List.of(cell.split(", ")));
        Set<String> there = new TreeSet<>();
        for (Method method : publicMethods()) there.add(method.getName());
        CHECK.isText("all", named.toString(), there.toString());
    }

    private static void codes(String page) throws ReflectiveOperationException {
        CHECK.part("codes");
        Matcher code = CODE.matcher(page);
        int found = 0;
        while (code.find()) {
            CHECK.is(code.group(1), LayeredCharters.class.getField(code.group(1)).getInt(null), Long.parseLong(code.group(2)));
            found++;
        }
        CHECK.is("how many", found, 6);
    }

    private static void tests(String page) throws IOException {
        CHECK.part("tests");
        CHECK.is("the command", page.contains("\n```\n.ci/run\n```\n") ? 1 : 0, 1);
        CHECK.is("the command can be run", Files.isExecutable(Path.of(".ci/run")) ? 1 : 0, 1);
        Set<String> named = new TreeSet<>();
        for (String cell : firstCells(page, "| test |")) {
            if (!cell.equals("Promise01Test to Promise26Test")) {
                named.add(cell);
                continue;
            }
            for (int promise = 1; promise <= Document.PROMISES; promise++) {
                named.add("Promise" + (promise < 10 ? "0" : "") + promise + "Test");
            }
        }
        Set<String> there = new TreeSet<>();
        try (Stream<Path> files = Files.list(Path.of("src/test/java"))) {
            files.map(file -> file.getFileName().toString()).filter(name -> name.endsWith("Test.java"))
                .forEach(name -> there.add(name.replace(".java", "")));
        }
        CHECK.isText("all", named.toString(), there.toString());
    }
}
