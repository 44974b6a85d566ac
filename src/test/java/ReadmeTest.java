import java.io.File;
import java.io.IOException;
import java.lang.reflect.Method;
import java.nio.charset.StandardCharsets;
import java.nio.file.Files;
import java.nio.file.Path;
import java.util.Arrays;
import java.util.TreeSet;
import java.util.regex.Matcher;
import java.util.regex.Pattern;

/** What README.md tells is so: the answers of its run, a row for each call of the face, one for each test. */
public final class ReadmeTest {
    private static final Check CHECK = new Check();
    private static final Pattern LAID = Pattern.compile("lay\\(x, ([0-9, -]+)\\);.*");
    private static final Pattern LAID_TEXT = Pattern.compile("layText\\(x, (\\d), (\\d), \"([^\"]*)\"\\);.*");
    private static final Pattern CALL = Pattern.compile("x\\.(\\w+)\\(([^)]*)\\); +// (LOST|-?\\d+)(:.*)?");
    private static final Pattern ROW = Pattern.compile("(?m)^\\| `(\\w+)\\(([^)]*)\\)` \\|");
    private static final Pattern TEST_ROW = Pattern.compile("(?m)^\\| `(\\w+Test)` \\|");
    private static final Pattern CONSTANT = Pattern.compile("(?m)^\\| (-\\d+) \\| `(\\w+)` \\|");

    public static void main(String[] args) throws IOException, ReflectiveOperationException {
        Path source = Path.of(System.getProperty("keeltolls.source", "src/main/java/KeelTolls.java")).toAbsolutePath();
        Path root = source.getParent().getParent().getParent().getParent();
        String page = Files.readString(root.resolve("README.md"), StandardCharsets.US_ASCII);
        runOfCalls(page);
        rowsOfCalls(page);
        rowsOfTests(page, root.resolve("src/test/java").toFile());
        constants(page);
        CHECK.end("ReadmeTest");
    }

    /** Of the page's Java, what stands at a line's beginning and is a call is made, in its order, on one object. */
    private static void runOfCalls(String page) {
        Run run = new Run();
        TreeSet<String> called = new TreeSet<>();
        for (String line : page.lines().toList()) {
            Matcher laid = LAID.matcher(line);
            Matcher text = LAID_TEXT.matcher(line);
            Matcher call = CALL.matcher(line);
            if (laid.matches()) {
                int[] all = numbers(laid.group(1));
                run.lay(all[0], all[1], Arrays.copyOfRange(all, 2, all.length));
            } else if (text.matches()) {
                run.layText(Integer.parseInt(text.group(1)), Integer.parseInt(text.group(2)), text.group(3));
            } else if (call.matches()) {
                long want = call.group(3).equals("LOST") ? KeelTolls.LOST : Long.parseLong(call.group(3));
                CHECK.due("README: " + line, run.call(call.group(1), numbers(call.group(2))), want);
                called.add(call.group(1));
            } else if (line.startsWith("x.") || line.startsWith("lay")) {
                CHECK.due("README: a call that isn't read: " + line, 1, 0);
            }
        }
        called.addAll(Arrays.asList("sheet", "put"));
        CHECK.due("README: its run has each call of the face, it has " + called, called.equals(face()) ? 1 : 0, 1);
    }

    private static int[] numbers(String row) {
        return Arrays.stream(row.split(","))
            .map(String::trim)
            .filter(number -> !number.isEmpty())
            .mapToInt(number -> number.equals("KeelTolls.NONE") ? KeelTolls.NONE : Integer.parseInt(number))
            .toArray();
    }

    private static TreeSet<String> face() {
        TreeSet<String> names = new TreeSet<>();
        for (Method m : KeelTolls.class.getMethods()) {
            if (m.getDeclaringClass() == KeelTolls.class) {
                names.add(m.getName());
            }
        }
        return names;
    }

    private static void rowsOfCalls(String page) {
        TreeSet<String> want = new TreeSet<>();
        for (Method m : KeelTolls.class.getMethods()) {
            if (m.getDeclaringClass() == KeelTolls.class) {
                want.add(m.getName() + " of " + m.getParameterCount());
            }
        }
        TreeSet<String> got = new TreeSet<>();
        Matcher row = ROW.matcher(page);
        while (row.find()) {
            int parameters = row.group(2).isEmpty() ? 0 : row.group(2).split(",").length;
            CHECK.due("README: one row for " + row.group(1), got.add(row.group(1) + " of " + parameters) ? 1 : 0, 1);
        }
        CHECK.due("README: a row for each call, it has " + got, got.equals(want) ? 1 : 0, 1);
    }

    private static void rowsOfTests(String page, File tests) {
        TreeSet<String> want = new TreeSet<>();
        String[] files = tests.list();
        for (String file : files == null ? new String[0] : files) {
            if (file.endsWith("Test.java")) {
                want.add(file.substring(0, file.length() - ".java".length()));
            }
        }
        TreeSet<String> got = new TreeSet<>();
        Matcher row = TEST_ROW.matcher(page);
        while (row.find()) {
            got.add(row.group(1));
        }
        CHECK.due("README: a row for each test, it has " + got, got.equals(want) ? 1 : 0, 1);
    }

    private static void constants(String page) throws ReflectiveOperationException {
        int seen = 0;
        Matcher row = CONSTANT.matcher(page);
        while (row.find()) {
            seen++;
            CHECK.due("README: " + row.group(2), Integer.parseInt(row.group(1)),
                KeelTolls.class.getField(row.group(2)).getInt(null));
        }
        CHECK.due("README: constants that are ints", seen, 5);
    }
}
