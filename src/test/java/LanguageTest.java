import java.io.IOException;
import java.lang.reflect.Field;
import java.lang.reflect.Method;
import java.lang.reflect.Modifier;
import java.nio.file.Files;
import java.nio.file.Path;
import java.util.ArrayList;
import java.util.Arrays;
import java.util.List;
import java.util.TreeSet;

/** The face of the document, and those rules of ../shared/LANGUAGE.md that a program can look for. */
public final class LanguageTest {
    private static final Path PROGRAM = Path.of("src/main/java/DoorstepRides.java");
    private static final String INDEX = "IndexOutOfBoundsException";
    private static final String ARGUMENT = "IllegalArgumentException";
    private static final String STATE = "IllegalStateException";

    private LanguageTest() {
    }

    public static void main(String[] args) throws IOException {
        constants();
        face();
        members();
        classesInside();
        text(Files.readString(PROGRAM));
        Checks.close("LanguageTest");
    }

    private static void constants() {
        Checks.due("NONE", DoorstepRides.NONE, -1);
        Checks.due("WALKS", DoorstepRides.WALKS, 0);
        Checks.due("WALKER", DoorstepRides.WALKER, 1);
        Checks.due("CHAIR", DoorstepRides.CHAIR, 2);
        Checks.due("PROMISED", DoorstepRides.PROMISED, 0);
        Checks.due("ABOARD", DoorstepRides.ABOARD, 1);
        Checks.due("SERVED", DoorstepRides.SERVED, 2);
        Checks.due("MISSED", DoorstepRides.MISSED, 3);
        Checks.due("CANCELLED", DoorstepRides.CANCELLED, 4);
        Checks.due("FAILED", DoorstepRides.FAILED, 5);
        Checks.due("DENIED", DoorstepRides.DENIED, 6);
        Checks.due("NOT_OWED", DoorstepRides.NOT_OWED, 1);
        Checks.due("SUSPENDED", DoorstepRides.SUSPENDED, 2);
        Checks.due("NO_ROOM", DoorstepRides.NO_ROOM, 3);
    }

    /** Each public method as the document writes it: answer, name, arguments, exceptions. */
    private static void face() {
        TreeSet<String> due = new TreeSet<>(List.of(
                "int rider(int,int,int,boolean)" + ARGUMENT + STATE, "boolean winter(boolean)",
                "int busStop(int,boolean)" + ARGUMENT, "int vehicle(int,int,int,int)" + ARGUMENT + STATE,
                "boolean lift(int,boolean)" + INDEX, "int ask(int,int,int,int)" + INDEX + ARGUMENT + STATE,
                "boolean cancel(int)" + INDEX + STATE, "void absent(int)" + INDEX + STATE,
                "int pass(int)" + ARGUMENT + STATE, "int end()" + STATE, "int traffic(int,int)" + INDEX + ARGUMENT,
                "int mend(int)" + INDEX, "int day()", "int now()", "boolean owes(int,int,int)" + INDEX + ARGUMENT,
                "int riderOf(int,int)" + INDEX + ARGUMENT, "int requestOf(int,int)" + INDEX + ARGUMENT,
                "int vehicleOf(int,int)" + INDEX + ARGUMENT, "int stopOf(int,int,int)" + INDEX + ARGUMENT,
                "int seatsAnew(int)" + INDEX, "int drive(int)" + INDEX, "int leastDrive(int)" + INDEX,
                "int patterns()", "int count(int)" + ARGUMENT, "long money()"));
        TreeSet<String> got = new TreeSet<>();
        for (Method method : DoorstepRides.class.getDeclaredMethods()) {
            if (!Modifier.isPrivate(method.getModifiers())) {
                got.add(written(method));
            }
        }
        if (!got.equals(due)) {
            System.out.println(got + " instead of " + due);
        }
        Checks.due("the face is the document's", got.equals(due), true);
        Checks.due("one constructor", DoorstepRides.class.getConstructors().length, 1);
        Checks.due("of all", DoorstepRides.class.getDeclaredConstructors().length, 1);
    }

    private static String written(Method method) {
        List<String> arguments = new ArrayList<>();
        for (Class<?> type : method.getParameterTypes()) {
            arguments.add(type.getName());
        }
        StringBuilder thrown = new StringBuilder();
        for (Class<?> type : method.getExceptionTypes()) {
            thrown.append(type.getSimpleName());
        }
        return method.getReturnType().getName() + " " + method.getName() + "(" + String.join(",", arguments) + ")"
                + thrown;
    }

    private static void members() {
        TreeSet<String> open = new TreeSet<>();
        int constants = 0;
        for (Field field : DoorstepRides.class.getDeclaredFields()) {
            boolean isOpen = !Modifier.isPrivate(field.getModifiers());
            constants += isOpen ? 1 : 0;
            Checks.due(field.getName() + " is static, if it is open", !isOpen || isConstant(field), true);
        }
        Checks.due("constants", constants, 14);
        for (Method method : DoorstepRides.class.getDeclaredMethods()) {
            if (!Modifier.isPrivate(method.getModifiers())) {
                open.add(method.getName());
            }
        }
        for (Class<?> type : allClasses()) {
            for (Method method : type.getDeclaredMethods()) {
                boolean isFace = type == DoorstepRides.class && Modifier.isPublic(method.getModifiers());
                Checks.due(method + " bears no public name", isFace || !open.contains(method.getName()), true);
                Checks.due(method + " takes at most seven", method.getParameterCount() <= 7, true);
            }
        }
    }

    private static boolean isConstant(Field field) {
        int is = field.getModifiers();
        return Modifier.isPublic(is) && Modifier.isStatic(is) && Modifier.isFinal(is) && field.getType() == int.class;
    }

    private static List<Class<?>> allClasses() {
        List<Class<?>> all = new ArrayList<>(List.of(DoorstepRides.class));
        all.addAll(Arrays.asList(DoorstepRides.class.getDeclaredClasses()));
        return all;
    }

    private static void classesInside() {
        Checks.due("at most twelve classes", allClasses().size() <= 12, true);
        int open = Modifier.PUBLIC | Modifier.PROTECTED;
        for (Class<?> type : allClasses()) {
            int fields = 0;
            for (Field field : type.getDeclaredFields()) {
                boolean isStatic = Modifier.isStatic(field.getModifiers());
                fields += isStatic ? 0 : 1;
                Checks.due(field + " is final, if static", !isStatic || Modifier.isFinal(field.getModifiers()), true);
            }
            Checks.due(type + " has at most twenty fields", fields <= 20, true);
            boolean isInside = type != DoorstepRides.class;
            Checks.due(type + " is not open", !isInside || (type.getModifiers() & open) == 0, true);
            Checks.due(type + " is static", !isInside || Modifier.isStatic(type.getModifiers()), true);
        }
        Checks.due("public and final", DoorstepRides.class.getModifiers(), Modifier.PUBLIC | Modifier.FINAL);
    }

    private static void text(String program) {
        Checks.due("signs", program.chars().allMatch(sign -> sign == '\n' || sign >= 32 && sign < 127), true);
        String code = program.replaceAll("(?s)/\\*.*?\\*/", "").replaceAll("//[^\n]*", "");
        for (String line : code.split("\n")) {
            if (line.startsWith("import")) {
                Checks.due(line, line.equals("import java.util.ArrayList;"), true);
            }
        }
        String[] none = {"->", "::", "catch", "finally", "synchronized", "assert", "instanceof", "package ", "Exact(",
            "native", "volatile", "static {", "getMessage", "System.", "Thread", "\" +", "+ \"", "float", "double",
            "equals(", "hashCode", "toString", "new Object", "while (true)", "for (;;)"};
        for (String word : none) {
            Checks.due("has no " + word, code.contains(word), false);
        }
        methodsAreShort(code);
    }

    /** A method begins at a line that ends in an opening brace, and ends at the closing one as far in. */
    private static void methodsAreShort(String code) {
        String[] lines = code.split("\n");
        for (int i = 0; i < lines.length; i++) {
            String begun = lines[i].stripTrailing();
            int in = begun.length() - begun.stripLeading().length();
            boolean isMethod = begun.endsWith("{") && begun.contains("(") && (in == 4 || in == 8) && !begun.contains("for (");
            for (int j = i; isMethod && j < lines.length; j++) {
                if (lines[j].equals(" ".repeat(in) + "}")) {
                    Checks.due(begun + " is short", j - i <= 60, true);
                    break;
                }
            }
        }
    }
}
