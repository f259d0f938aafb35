import java.io.IOException;
import java.lang.reflect.Method;
import java.nio.file.Files;
import java.nio.file.Path;
import java.util.ArrayList;
import java.util.List;
import java.util.TreeSet;
import java.util.regex.Matcher;
import java.util.regex.Pattern;

/** The tables of README.md: their sentences stand in the document, their tests are there, and none is left out. */
public final class ReadmeTest {
    private static final Pattern NAMED = Pattern.compile("`(\\w+Test)\\.(\\w+)`");
    private static final List<Class<?>> LISTED = List.of(EdgesPlacesTest.class, EdgesVehiclesTest.class,
            EdgesRoutesTest.class, EdgesDayTest.class, EdgesLawTest.class, RefusedTest.class);

    private ReadmeTest() {
    }

    /** A row: the number of the promise, or none, the words of the document, and the tests. */
    private record Row(String promise, String words, String tests) {
    }

    public static void main(String[] args) throws IOException {
        List<Row> rows = rows(Files.readString(Path.of("README.md")));
        String document = plain(Files.readString(Path.of("../shared/DOC.md")));
        Checks.due("there are rows", rows.size() > 100, true);
        TreeSet<String> named = new TreeSet<>();
        for (Row row : rows) {
            String where = row.promise.isEmpty() ? document : section(document, row.promise);
            Checks.due("the document says: " + row.words, where.contains(row.words), true);
            List<String> tests = testsIn(row.tests);
            Checks.due("has a test: " + row.words, !tests.isEmpty(), true);
            named.addAll(tests);
        }
        everyTestIsThere(named);
        everyBoundaryTestIsNamed(named);
        everyPromiseHasARow(rows);
        Checks.close("ReadmeTest");
    }

    private static String plain(String text) {
        return text.replaceAll("\\s+", " ");
    }

    private static String section(String document, String promise) {
        int begin = document.indexOf("## Promise " + promise + ":");
        int end = document.indexOf("## ", begin + 3);
        return begin < 0 ? "" : document.substring(begin, end < 0 ? document.length() : end);
    }

    private static List<Row> rows(String readme) {
        List<Row> rows = new ArrayList<>();
        for (String line : readme.split("\n")) {
            String[] cells = line.split("\\|");
            boolean isHead = line.contains("The document says") || line.contains("---");
            if (line.startsWith("|") && !isHead) {
                boolean hasPromise = cells.length == 4;
                String promise = hasPromise ? cells[1].trim() : "";
                rows.add(new Row(promise, plain(cells[cells.length - 2].trim()), cells[cells.length - 1]));
            }
        }
        return rows;
    }

    private static List<String> testsIn(String cell) {
        List<String> tests = new ArrayList<>();
        Matcher matcher = NAMED.matcher(cell);
        while (matcher.find()) {
            tests.add(matcher.group(1) + "." + matcher.group(2));
        }
        return tests;
    }

    private static void everyTestIsThere(TreeSet<String> named) {
        for (String test : named) {
            String[] parts = test.split("\\.");
            boolean isThere = false;
            try {
                for (Method method : Checks.testsOf(Class.forName(parts[0]))) {
                    isThere |= method.getName().equals(parts[1]);
                }
            } catch (ClassNotFoundException e) {
                System.out.println("no class " + parts[0]);
            }
            Checks.due(test + " is there", isThere, true);
        }
    }

    private static void everyBoundaryTestIsNamed(TreeSet<String> named) {
        for (Class<?> tests : LISTED) {
            for (Method method : Checks.testsOf(tests)) {
                String test = tests.getSimpleName() + "." + method.getName();
                Checks.due(test + " is named in README.md", named.contains(test), true);
            }
        }
    }

    private static void everyPromiseHasARow(List<Row> rows) {
        for (int promise = 1; promise <= 26; promise++) {
            String number = Integer.toString(promise);
            boolean hasRow = rows.stream().anyMatch(row -> row.promise.equals(number));
            Checks.due("a row of the promise " + promise, hasRow, true);
        }
    }
}
