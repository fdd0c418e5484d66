import java.lang.reflect.Constructor;
import java.lang.reflect.Field;
import java.lang.reflect.Method;
import java.lang.reflect.Modifier;
import java.nio.charset.StandardCharsets;
import java.nio.file.Files;
import java.nio.file.Path;
import java.util.ArrayList;
import java.util.Arrays;
import java.util.List;
import java.util.Set;
import java.util.TreeSet;
import java.util.regex.Matcher;
import java.util.regex.Pattern;

// The class's face, and the rules of LANGUAGE.md that a look at the class and its source can tell.
public final class LanguageTest {
    private static final Path SOURCE = Path.of("src/main/java/LongSums.java");
    private static final String[] FACE = {
        "int row(int,int,int)", "int lose(int)", "int put(int,int,long,int)", "int mark(int,int,int)",
        "int copy(int,int,int,int,int)", "long look(int,int,int)", "double see(int,int)",
        "int compare(int,int,double)", "int keeper(int,int)", "int add(int,int,int,int)",
        "int pair(int,int,int,int,int)", "int merge(int,int)", "int clear(int)", "int error(int,int,int,int)",
        "double plain(int,int,int)", "int sort(int)", "int seen(int,int)", "double tell(int,int,boolean)",
        "double mean(int,int,int)", "double length(int,boolean)", "int sign(int)", "int high(int)",
        "int bit(int,int)", "int order(int,int)", "int undo()", "int count(int)"};
    private static final String[] CONSTANTS = {"NONE", "OUTSIDE", "NOTHING", "CAST", "INDEX", "SIZE"};
    private static final String[] RULED_OUT = {"\\bthrow\\b", "\\btry\\b", "\\bcatch\\b", "\\bassert\\b",
        "\\bsynchronized\\b", "->", "::", "\\bDouble\\.", "\\bFloat\\.", "\\bSystem\\.(?!arraycopy)", "\\bThread\\b",
        "\\bMath\\.(?!abs\\(|max\\(|min\\()", "\\bLong\\.(?!numberOfLeadingZeros\\()", "\\bInteger\\.",
        "\\bimport (?!java\\.util\\.Arrays;)", "\\bvar\\b", "NaN", "\\[\\]\\[\\]\\["};

    private static int wrong = 0;

    private static void check(boolean holds, String told) {
        if (!holds) {
            wrong++;
            System.out.println(told);
        }
    }

    private static String signature(Method method) {
        StringBuilder told = new StringBuilder(method.getReturnType() + " " + method.getName() + "(");
        for (Class<?> type : method.getParameterTypes()) {
            told.append(told.charAt(told.length() - 1) == '(' ? "" : ",").append(type);
        }
        return told.append(")").toString();
    }

    private static void face() {
        Set<String> due = new TreeSet<>(Arrays.asList(FACE));
        Set<String> found = new TreeSet<>();
        for (Method method : LongSums.class.getDeclaredMethods()) {
            if (!Modifier.isPrivate(method.getModifiers())) {
                check(method.getModifiers() == Modifier.PUBLIC, "not simply public: " + method);
                found.add(signature(method));
            }
        }
        check(found.equals(due), "the methods are " + found + ", due are " + due);
        Set<String> constants = new TreeSet<>();
        for (Field field : LongSums.class.getDeclaredFields()) {
            if (!Modifier.isPrivate(field.getModifiers())) {
                constants.add(field.getName());
                check(field.getModifiers() == (Modifier.PUBLIC | Modifier.STATIC | Modifier.FINAL), "not a constant: " + field);
            }
        }
        check(constants.equals(new TreeSet<>(Arrays.asList(CONSTANTS))), "the constants are " + constants);
        Constructor<?>[] constructors = LongSums.class.getDeclaredConstructors();
        check(constructors.length == 1 && constructors[0].getModifiers() == Modifier.PUBLIC
            && constructors[0].getParameterCount() == 0, "the constructor is not as due");
        check(LongSums.class.getModifiers() == (Modifier.PUBLIC | Modifier.FINAL), "the class is not public and final alone");
        check(LongSums.class.getPackageName().isEmpty(), "the class has a package");
    }

    private static void classes() {
        Set<String> open = new TreeSet<>();
        for (Method method : LongSums.class.getDeclaredMethods()) {
            if (Modifier.isPublic(method.getModifiers())) {
                open.add(method.getName());
            }
        }
        List<Class<?>> all = new ArrayList<>(Arrays.asList(LongSums.class.getDeclaredClasses()));
        check(all.size() <= 11, "there are too many classes");
        all.add(LongSums.class);
        for (Class<?> each : all) {
            int modifiers = each.getModifiers();
            check(each == LongSums.class || Modifier.isStatic(modifiers) && !Modifier.isPublic(modifiers), "class " + each);
            int fields = 0;
            for (Field field : each.getDeclaredFields()) {
                boolean isStatic = Modifier.isStatic(field.getModifiers());
                fields += isStatic ? 0 : 1;
                check(!isStatic || Modifier.isFinal(field.getModifiers())
                    && (field.getType() == int.class || field.getType() == long.class), "static state: " + field);
            }
            check(fields <= 20, each + " has too many fields");
            for (Method method : each.getDeclaredMethods()) {
                boolean isFace = each == LongSums.class && Modifier.isPublic(method.getModifiers());
                check(isFace || !open.contains(method.getName()), "has the name of a public method: " + method);
                check(method.getParameterCount() <= 7, "too many parameters: " + method);
            }
        }
    }

    private static void source() throws java.io.IOException {
        String text = Files.readString(SOURCE, StandardCharsets.UTF_8);
        check(text.chars().allMatch(c -> c == '\n' || c >= 32 && c < 127), "the source has other signs than plain ones");
        String code = text.replaceAll("(?s)/\\*.*?\\*/", "").replaceAll("//[^\n]*", "");
        for (String pattern : RULED_OUT) {
            Matcher found = Pattern.compile(pattern).matcher(code);
            check(!found.find(), "ruled out: " + pattern);
        }
        int from = 0;
        String[] lines = text.split("\n");
        for (int i = 0; i < lines.length; i++) {
            if (lines[i].matches("\\s+.*\\) \\{") && !lines[i].matches("\\s+(if|for|while|switch|\\}).*")) {
                from = i;
            }
            boolean ends = lines[i].equals("    }") || lines[i].equals("        }");
            check(!ends || i - from < 60, "a long method ends in line " + (i + 1));
        }
    }

    // What is made anew is made with the object: the calls themselves make nothing.
    private static void room() throws java.io.IOException {
        int made = 0;
        for (String line : Files.readAllLines(SOURCE, StandardCharsets.UTF_8)) {
            boolean isField = line.matches("\\s+(private )?final .* = new .*;");
            boolean isFilled = line.matches("\\s+(rows|keepers|before)\\[i\\] = new (Row|Keeper)\\(\\);");
            made += !line.trim().startsWith("*") && line.matches(".*\\bnew [A-Za-z]+[\\[(].*") && !isField && !isFilled ? 1 : 0;
        }
        check(made == 0, "a call makes objects or arrays");
    }

    public static void main(String[] args) throws java.io.IOException {
        face();
        classes();
        source();
        room();
        System.out.println(wrong == 0 ? "all is as due" : wrong + " faults");
        if (wrong != 0) {
            System.exit(1);
        }
    }
}
