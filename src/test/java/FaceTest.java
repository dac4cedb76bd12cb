import java.io.IOException;
import java.lang.reflect.Constructor;
import java.lang.reflect.Field;
import java.lang.reflect.Method;
import java.lang.reflect.Modifier;
import java.nio.file.Files;
import java.nio.file.Path;
import java.util.ArrayList;
import java.util.Collections;
import java.util.List;
import java.util.regex.Matcher;
import java.util.regex.Pattern;

/** The public face as the document has it, and those rules of LANGUAGE.md that the source's text shows. */
public final class FaceTest {
    private static final Path DOCUMENT = Path.of("..", "shared", "DOC.md");
    private static final Path SOURCE = Path.of("src", "main", "java", "FlagHues.java");
    private static final String[] NOT_IN_THE_LANGUAGE = {"^(?!\\s*(case|default)\\b).*->", "::", "\\bfinally\\b",
        "\\bsynchronized\\b", "\\bassert\\b", "\\bstatic \\{", "\\bpublic (?!final class|[^=;]*\\()",
        "\\bprotected\\b", "\" \\+", "\\+ \"", "Exact\\(", "\\bvar\\b", "\\bpackage\\b", "[^\\x00-\\x7e]",
        "^import (?!java.util.(ArrayList|Arrays|Iterator|List|NoSuchElementException);)", "\\bgetMessage\\b",
        "catch \\((Exception|Throwable|Error|NullPointer|ArrayIndex|ArrayStore|ClassCast|NegativeArray)"};

    public static void main(String[] args) throws IOException {
        Checks.due("the modifiers of the class", Modifier.PUBLIC | Modifier.FINAL, FlagHues.class.getModifiers());
        Checks.due("the methods", methodsOfTheDocument(), methodsOfTheClass());
        noOtherVisibleMembers();
        noPrivateMethodWithANameOfTheFace();
        sourceKeepsToTheLanguage();
        callsMakeNothingButExceptions();
        methodsAreShort();
        Checks.end();
    }

    private static List<String> methodsOfTheDocument() throws IOException {
        List<String> methods = new ArrayList<>();
        for (String row : Files.readAllLines(DOCUMENT)) {
            Matcher matcher = Pattern.compile("    public (\\w+ \\w+\\(.*\\).*);").matcher(row);
            if (matcher.matches()) {
                methods.add(matcher.group(1));
            }
        }
        Collections.sort(methods);
        return methods;
    }

    private static List<String> methodsOfTheClass() {
        List<String> methods = new ArrayList<>();
        for (Method method : FlagHues.class.getDeclaredMethods()) {
            if (Modifier.isPublic(method.getModifiers())) {
                methods.add(methodAsText(method));
            }
        }
        Collections.sort(methods);
        return methods;
    }

    /** As the document writes it; the parameters' names are read from the source, where reflection has none. */
    private static String methodAsText(Method method) {
        StringBuilder text = new StringBuilder();
        text.append(method.getReturnType().getSimpleName()).append(' ').append(method.getName()).append('(');
        text.append(parametersInSource(method.getName())).append(')');
        String between = " throws ";
        for (Class<?> thrown : method.getExceptionTypes()) {
            text.append(between).append(thrown.getSimpleName());
            between = ", ";
        }
        return text.toString();
    }

    private static String parametersInSource(String name) {
        try {
            Matcher matcher = Pattern.compile("public \\w+ " + name + "\\(([^)]*)\\)").matcher(Files.readString(SOURCE));
            return matcher.find() ? matcher.group(1) : "?";
        } catch (IOException e) {
            return "?";
        }
    }

    private static void noOtherVisibleMembers() {
        Constructor<?>[] constructors = FlagHues.class.getDeclaredConstructors();
        Checks.due("the constructors", 1, constructors.length);
        Checks.due("its parameters", 0, constructors[0].getParameterCount());
        Checks.due("it is public", true, Modifier.isPublic(constructors[0].getModifiers()));
        for (Field field : FlagHues.class.getDeclaredFields()) {
            Checks.due(field.getName() + " is private", true, Modifier.isPrivate(field.getModifiers()));
            boolean isFinal = !Modifier.isStatic(field.getModifiers()) || Modifier.isFinal(field.getModifiers());
            Checks.due(field.getName() + " is final if it is static", true, isFinal);
        }
        for (Method method : FlagHues.class.getDeclaredMethods()) {
            boolean isSeen = Modifier.isPublic(method.getModifiers()) || Modifier.isPrivate(method.getModifiers());
            Checks.due(method.getName() + " is public or private", true, isSeen);
        }
        for (Class<?> inside : FlagHues.class.getDeclaredClasses()) {
            Checks.due(inside.getName() + " is not public", false, Modifier.isPublic(inside.getModifiers()));
        }
    }

    private static void noPrivateMethodWithANameOfTheFace() {
        List<String> names = new ArrayList<>();
        for (Method method : FlagHues.class.getMethods()) {
            names.add(method.getName());
        }
        List<Class<?>> classes = new ArrayList<>(List.of(FlagHues.class.getDeclaredClasses()));
        classes.add(FlagHues.class);
        for (Class<?> inside : classes) {
            for (Method method : inside.getDeclaredMethods()) {
                boolean isClash = Modifier.isPrivate(method.getModifiers()) && names.contains(method.getName());
                Checks.due(inside.getName() + "." + method.getName() + " bears a name of the face", false, isClash);
                Checks.due(method.getName() + " has at most 7 parameters", true, method.getParameterCount() <= 7);
            }
        }
    }

    private static void sourceKeepsToTheLanguage() throws IOException {
        for (String row : Files.readAllLines(SOURCE)) {
            String code = row.replaceAll("//.*", "");
            for (String pattern : NOT_IN_THE_LANGUAGE) {
                if (!row.trim().startsWith("/**")) {
                    Checks.due(pattern + " in: " + row.trim(), false, Pattern.compile(pattern).matcher(code).find());
                }
            }
        }
    }

    /** Rows are made in constructors and used again: what a call makes is its exception alone. */
    private static void callsMakeNothingButExceptions() throws IOException {
        Pattern inField = Pattern.compile("\\s+(private )?final [\\w\\[\\]]+ \\w+ = new [^;]*;");
        Pattern inThrow = Pattern.compile("\\s+(default: )?throw new \\w+Exception\\(\"[^\"]+\"\\);");
        int elsewhere = 0;
        for (String row : Files.readAllLines(SOURCE)) {
            boolean isKnown = inField.matcher(row).matches() || inThrow.matcher(row).matches();
            if (row.contains("new ") && !row.trim().startsWith("/") && !isKnown) {
                elsewhere++;
                Checks.due("what is made beside fields and exceptions", "kept[i] = new Land();", row.trim());
            }
        }
        Checks.due("the rows that make something else", 1, elsewhere);
    }

    private static void methodsAreShort() throws IOException {
        Pattern head = Pattern.compile("( +)(?!if|for|while|switch|\\}|else)\\w[\\w \\[\\]]*\\(.*\\{");
        String indent = "";
        int start = 0;
        int number = 0;
        int methods = 0;
        for (String row : Files.readAllLines(SOURCE)) {
            number++;
            Matcher matcher = head.matcher(row);
            if (start == 0 && matcher.matches()) {
                start = number;
                indent = matcher.group(1);
            } else if (start != 0 && row.equals(indent + "}")) {
                Checks.due("the method at row " + start + " has some 60 rows at most", true, number - start < 70);
                methods++;
                start = 0;
            }
        }
        Checks.due("methods were seen", true, methods >= methodsOfTheClass().size());
    }
}
