import java.io.IOException;
import java.lang.reflect.Method;
import java.lang.reflect.Modifier;
import java.nio.charset.StandardCharsets;
import java.nio.file.Files;
import java.nio.file.Path;
import java.util.ArrayList;
import java.util.List;
import java.util.Map;
import java.util.Set;
import java.util.TreeMap;
import java.util.TreeSet;
import java.util.regex.Matcher;
import java.util.regex.Pattern;
import java.util.stream.Stream;

// What README.md shows: its java lines are compiled and run as one program, and each line that calls something must tell
// what that answers, and answer so; its table of constants and its commands for a single test are tried, too.
public final class ReadmeTest {
    private static final Path CHECKOUT = Path.of("").toAbsolutePath(), README = CHECKOUT.resolve("README.md");
    private static final Pattern MADE = Pattern.compile("LongSums \\w+ = new LongSums\\(\\);");
    // A call, kept under a name or not; behind it its answer, the constant that this is, and what it means.
    private static final Pattern CALLED =
        Pattern.compile("(?:(?:int|long|double) (\\w+) = )?([^;]+);\\s+// (\\S+?)(?: \\(([A-Z]+)\\))?(?:: .+)?");
    private static final Pattern CONSTANT = Pattern.compile("\\| `([A-Z]+)` \\| (-?\\d+) \\|.*");

    private static int wrong = 0;
    private static int shown = 0;

    private static void check(boolean holds, String told) {
        if (!holds) {
            wrong++;
            System.out.println("README.md: " + told);
        }
    }

    // The lines of all blocks of a language, each with its number.
    private static Map<Integer, String> blocks(List<String> page, String language) {
        Map<Integer, String> found = new TreeMap<>();
        String open = "";
        for (int i = 0; i < page.size(); i++) {
            String line = page.get(i);
            if (line.startsWith("```")) {
                open = open.isEmpty() ? line.substring(3) : "";
                check(open.isEmpty() || open.equals("java") || open.equals("sh"), "line " + (i + 1) + ": a block of " + open);
            } else if (open.equals(language)) {
                found.put(i + 1, line);
            }
        }
        check(open.isEmpty(), "a block has no end");
        return found;
    }

    private static int constant(String name) {
        try {
            return LongSums.class.getField(name).getInt(null);
        } catch (ReflectiveOperationException thrown) {
            check(false, "LongSums has no constant " + name);
            return 0;
        }
    }

    private static String quoted(String text) {
        return '"' + text.replace("\\", "\\\\").replace("\"", "\\\"") + '"';
    }

    // One statement of the program that asks what a line answers; the line itself where it keeps the answer.
    private static String asked(int number, String line) {
        if (line.isBlank() || MADE.matcher(line).matches()) {
            return line;
        }
        Matcher called = CALLED.matcher(line);
        if (!called.matches()) {
            check(false, "line " + number + " tells no answer: " + line);
            return "";
        }
        shown++;
        if (called.group(4) != null) {
            check(Integer.toString(constant(called.group(4))).equals(called.group(3)), "line " + number + ": " + called.group(4));
        }
        String name = called.group(1);
        return (name == null ? "" : line + "\n") + "answers(" + number + ", " + quoted(called.group(2))
            + ", String.valueOf(" + (name == null ? called.group(2) : name) + "), " + quoted(called.group(3)) + ");";
    }

    // What the page's lines name is theirs: the program's own state is out of their reach, in methods.
    private static String program(Map<Integer, String> lines) {
        List<String> text = new ArrayList<>(List.of(
            "public final class ReadmeProgram {",
            "    private static int wrong = 0;",
            "    private static void answers(int line, String call, String got, String want) {",
            "        if (!got.equals(want)) {",
            "            wrong++;",
            "            System.out.println(\"README.md: line \" + line + \": \" + call + \" answered \" + got + \", told is \" + want);",
            "        }",
            "    }",
            "    private static void end() {",
            "        System.exit(wrong == 0 ? 0 : 1);",
            "    }",
            "    private static void asItStands() {"));
        text.addAll(lines.values());
        text.add("    }");
        text.add("    public static void main(String[] args) {");
        text.add("        asItStands();");
        lines.forEach((number, line) -> text.add(asked(number, line)));
        text.add("        end();");
        text.add("    }");
        text.add("}");
        return String.join("\n", text) + "\n";
    }

    private static boolean runs(Path folder, String... command) throws IOException, InterruptedException {
        Process process = new ProcessBuilder(command).directory(folder.toFile()).redirectErrorStream(true).start();
        process.getOutputStream().close();
        String told = new String(process.getInputStream().readAllBytes(), StandardCharsets.UTF_8);
        boolean isWell = process.waitFor() == 0;
        if (!isWell) {
            System.out.print(told);
        }
        return isWell;
    }

    private static void calls(List<String> page, Path folder) throws IOException, InterruptedException {
        Map<Integer, String> lines = blocks(page, "java");
        String program = program(lines);
        Path file = folder.resolve("ReadmeProgram.java");
        Files.writeString(file, program);
        String source = CHECKOUT.resolve("src/main/java/LongSums.java").toString();
        boolean compiled = runs(folder, "javac", "-encoding", "UTF-8", "-d", folder.toString(), source, file.toString());
        check(compiled, "what it shows does not compile");
        check(compiled && runs(folder, "java", "-cp", folder.toString(), "ReadmeProgram"), "what it tells is not what is answered");
        check(shown > 0 && shown <= 512, "it shows " + shown + " calls");
        for (Method method : LongSums.class.getDeclaredMethods()) {
            boolean isShown = program.contains("bench." + method.getName() + "(");
            check(isShown || !Modifier.isPublic(method.getModifiers()), "it does not show " + method.getName());
        }
    }

    private static void constants(List<String> page) {
        List<String> told = new ArrayList<>();
        for (String line : page) {
            Matcher row = CONSTANT.matcher(line);
            if (row.matches()) {
                told.add(row.group(1));
                check(constant(row.group(1)) == Integer.parseInt(row.group(2)), "its table tells " + row.group(1) + " wrongly");
            }
        }
        for (String name : List.of("NONE", "OUTSIDE", "NOTHING", "CAST", "INDEX", "SIZE")) {
            check(told.contains(name), "its table does not tell " + name);
        }
    }

    // Run where the checkout and ../shared are only linked, so that what is compiled stays out of them.
    private static void commands(List<String> page, Path folder) throws IOException, InterruptedException {
        Path checkout = Files.createDirectory(folder.resolve("checkout"));
        Files.createSymbolicLink(checkout.resolve("src"), CHECKOUT.resolve("src"));
        Files.createSymbolicLink(folder.resolve("shared"), CHECKOUT.resolve("../shared").toRealPath());
        String commands = String.join("\n", blocks(page, "sh").values());
        check(commands.contains("src/test/java/") && commands.contains("../shared/tests/"), "it does not tell how one test is run");
        check(runs(checkout, "sh", "-e", "-c", commands), "its commands for a single test fail");
        check(page.stream().anyMatch(line -> line.strip().equals("bash .ci/run")), "it does not tell how all tests are run");
    }

    private static void tests(List<String> page) throws IOException {
        Set<String> told = new TreeSet<>();
        for (String line : page) {
            Matcher name = Pattern.compile("`(\\w+Test)`").matcher(line.startsWith("- ") ? line : "");
            while (name.find()) {
                told.add(name.group(1));
            }
        }
        Set<String> found = new TreeSet<>();
        try (Stream<Path> files = Files.list(CHECKOUT.resolve("src/test/java"))) {
            files.forEach(file -> found.add(file.getFileName().toString().replace(".java", "")));
        }
        check(told.equals(found), "the tests that it tells of are " + told + ", there are " + found);
    }

    private static void remove(Path folder) throws IOException {
        try (Stream<Path> inside = Files.walk(folder)) {
            List<Path> all = new ArrayList<>(inside.toList());
            for (int i = all.size() - 1; i >= 0; i--) {
                Files.delete(all.get(i));
            }
        }
    }

    public static void main(String[] args) throws IOException, InterruptedException {
        List<String> page = Files.readAllLines(README, StandardCharsets.UTF_8);
        Path folder = Files.createTempDirectory("readme");
        try {
            calls(page, folder);
            constants(page);
            commands(page, folder);
            tests(page);
        } finally {
            remove(folder);
        }
        System.out.println(wrong == 0 ? "all " + shown + " answers are as README.md tells them" : wrong + " faults");
        if (wrong != 0) {
            System.exit(1);
        }
    }
}
