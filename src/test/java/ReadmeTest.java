import java.io.File;
import java.io.IOException;
import java.lang.reflect.InvocationTargetException;
import java.lang.reflect.Method;
import java.lang.reflect.Modifier;
import java.nio.charset.StandardCharsets;
import java.nio.file.Files;
import java.nio.file.Path;
import java.nio.file.StandardCopyOption;
import java.util.ArrayList;
import java.util.List;
import java.util.Set;
import java.util.TreeSet;
import java.util.regex.Matcher;
import java.util.regex.Pattern;
import java.util.stream.Stream;

/** What README.md shows is so: its program, the answers of its examples, and its list of tests. */
public final class ReadmeTest {
    private static final String MAIN = "src/main/java/IceField.java";
    private static final String NEW_OBJECT = "IceField field = new IceField();";
    private static final Pattern BLOCK = Pattern.compile("```(\\w+)\\n(.*?)```", Pattern.DOTALL);
    private static final Pattern CALL =
        Pattern.compile("field\\.(\\w+)\\((.*)\\); +// (throws \\w+|-?[0-9]+(?:\\.[0-9]+)?)(?:: .*)?");

    private static IceField field = new IceField();
    private static final Set<String> shown = new TreeSet<>();

    private ReadmeTest() {
    }

    public static void main(String[] args) throws Exception {
        String page = Files.readString(Path.of("README.md"));
        List<String> programs = new ArrayList<>();
        for (String block : blocks(page, "java")) {
            if (block.contains("class ")) {
                programs.add(block);
            } else {
                askAll(block);
            }
        }
        same("what the program prints", blocks(page, "text"), List.of(printed(programs, blocks(page, "sh"))));
        same("the calls that are shown", shown, face());
        namesEveryTest(page);
        Due.end();
    }

    private static List<String> blocks(String page, String kind) {
        List<String> found = new ArrayList<>();
        Matcher block = BLOCK.matcher(page);
        while (block.find()) {
            if (block.group(1).equals(kind)) {
                found.add(block.group(2));
            }
        }
        return found;
    }

    private static void same(String what, Object got, Object due) {
        Due.is(what + " (" + got + " as " + due + ")", 1, () -> got.equals(due) ? 1 : 0);
    }

    // ---- the examples

    private static void askAll(String block) throws IllegalAccessException {
        for (String line : block.split("\n")) {
            Matcher call = CALL.matcher(line);
            if (line.equals(NEW_OBJECT)) {
                field = new IceField();
            } else if (call.matches()) {
                shown.add(call.group(1));
                same(line, answer(call.group(1), call.group(2)), call.group(3));
            } else {
                Due.report(line, "no call with its answer", "one");
            }
        }
    }

    private static String answer(String name, String arguments) throws IllegalAccessException {
        String[] parts = arguments.isEmpty() ? new String[0] : arguments.split(", ");
        Object[] values = new Object[parts.length];
        for (int i = 0; i < parts.length; i++) {
            values[i] = parts[i].startsWith("'") ? parts[i].charAt(1) : Integer.parseInt(parts[i]);
        }
        for (Method method : IceField.class.getMethods()) {
            if (method.getName().equals(name)) {
                try {
                    return String.valueOf(method.invoke(field, values));
                } catch (InvocationTargetException e) {
                    return "throws " + e.getCause().getClass().getSimpleName();
                }
            }
        }
        return "no such call";
    }

    private static Set<String> face() {
        Set<String> names = new TreeSet<>();
        for (Method method : IceField.class.getDeclaredMethods()) {
            if (Modifier.isPublic(method.getModifiers())) {
                names.add(method.getName());
            }
        }
        return names;
    }

    // ---- the program

    /** What the programs print when the commands run that stand first, in a directory of their own. */
    private static String printed(List<String> programs, List<String> commands) throws Exception {
        Path place = Files.createTempDirectory("readme");
        try {
            Path main = place.resolve(MAIN);
            Files.createDirectories(main.getParent());
            Files.copy(Path.of(MAIN), main, StandardCopyOption.REPLACE_EXISTING);
            for (String program : programs) {
                Files.writeString(place.resolve(nameOf(program) + ".java"), program);
            }
            return outputOf(commands.isEmpty() ? "" : commands.get(0), place.toFile());
        } finally {
            delete(place.toFile());
        }
    }

    private static String nameOf(String program) {
        return program.replaceFirst("(?s).*?class (\\w+).*", "$1");
    }

    private static String outputOf(String commands, File place) throws IOException, InterruptedException {
        Process process = new ProcessBuilder("sh", "-e", "-c", commands).directory(place)
            .redirectErrorStream(true).start();
        String output = new String(process.getInputStream().readAllBytes(), StandardCharsets.UTF_8);
        same("how the commands end", process.waitFor(), 0);
        return output;
    }

    private static void delete(File file) {
        File[] inside = file.listFiles();
        if (inside != null) {
            for (File one : inside) {
                delete(one);
            }
        }
        file.delete();
    }

    // ---- the tests

    private static void namesEveryTest(String page) throws IOException {
        try (Stream<Path> files = Files.list(Path.of("src/test/java"))) {
            for (Object path : files.sorted().toArray()) {
                String name = ((Path) path).getFileName().toString().replace(".java", "");
                if (name.endsWith("Test")) {
                    Due.is("the page names " + name, 1, () -> page.contains("`" + name + "`") ? 1 : 0);
                }
            }
        }
        Due.is(".ci/run can be run", 1, () -> new File(".ci/run").canExecute() ? 1 : 0);
    }
}
