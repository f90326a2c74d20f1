import java.io.IOException;
import java.nio.file.Files;
import java.nio.file.Path;
import java.util.ArrayList;
import java.util.List;
import java.util.Map;
import java.util.Set;
import java.util.TreeMap;
import java.util.TreeSet;
import java.util.regex.Matcher;
import java.util.regex.Pattern;
import java.util.stream.Collectors;
import java.util.stream.Stream;

/** README.md: its example does what it says, and its tables say what the document says. */
public final class ReadmeTest {
    private static final Check check = new Check();

    private static Readme readme;
    private static String document;

    public static void main(String[] args) throws Exception {
        readme = new Readme();
        document = Files.readString(Path.of("../shared/DOC.md"));
        theExamplePrintsWhatIsSaid();
        everyCallHasItsRowAndItsRefusals();
        everyConstantHasItsRowAndItsValue();
        everyTestHasItsRow();
        onlyTestsHaveAMainMethod();
        check.end();
    }

    private static void theExamplePrintsWhatIsSaid() throws Exception {
        check.due("examples", readme.blocks("java").size(), 1);
        check.due("outputs", readme.blocks("text").size(), 1);
        try (Folder folder = new Folder()) {
            folder.write("Example.java", readme.blocks("java").get(0));
            folder.copy("src/main/java/TextDelta.java", "src/main/java/TextDelta.java");
            Folder.Ended ended = folder.run("", "set -e\n" + readme.blocks("sh").get(0));
            check.due("the example ends with", ended.code(), 0);
            check.due("the example", ended.printed(), readme.blocks("text").get(0));
        }
    }

    /** Of each promise's section: the call without its types, and the codes in their order. */
    private static Map<String, String> callsOfTheDocument() {
        Map<String, String> calls = new TreeMap<>();
        Pattern section = Pattern.compile("(?ms)^## Promise \\d+: \\w+\n\n`\\w+ (\\w+\\(.*?\\))`:(.*?)(?=^## )");
        Matcher promise = section.matcher(document);
        while (promise.find()) {
            calls.put(promise.group(1).replace("int ", ""), codes(promise.group(2)));
        }
        return calls;
    }

    private static String codes(String text) {
        List<String> codes = new ArrayList<>();
        Matcher code = Pattern.compile("\\b(BAD_ARG|FULL|BAD_LENGTH|NONE)\\b").matcher(text);
        while (code.find()) {
            if (!codes.contains(code.group())) {
                codes.add(code.group());
            }
        }
        return String.join(", ", codes);
    }

    private static void everyCallHasItsRowAndItsRefusals() {
        Map<String, String> rows = new TreeMap<>();
        for (String[] row : readme.table("call")) {
            rows.put(row[0].replace("`", ""), row[2].replace("`", ""));
        }
        check.due("calls of the document", callsOfTheDocument().size(), 18);
        check.due("calls", rows.toString(), callsOfTheDocument().toString());
    }

    private static void everyConstantHasItsRowAndItsValue() {
        Map<String, String> due = new TreeMap<>();
        Matcher constant = Pattern.compile("public static final int (\\w+) = (-?\\d+);").matcher(document);
        while (constant.find()) {
            due.put(constant.group(1), constant.group(2));
        }
        Map<String, String> rows = new TreeMap<>();
        for (String[] row : readme.table("constant")) {
            rows.put(row[0].replace("`", ""), row[1]);
        }
        check.due("constants of the document", due.size(), 7);
        check.due("constants", rows.toString(), due.toString());
    }

    private static Set<String> testFiles() throws IOException {
        try (Stream<Path> files = Files.list(Path.of("src/test/java"))) {
            return files.map(file -> file.getFileName().toString().replace(".java", ""))
                .collect(Collectors.toCollection(TreeSet::new));
        }
    }

    private static void everyTestHasItsRow() throws IOException {
        Set<String> named = new TreeSet<>();
        for (String[] row : readme.table("test")) {
            named.addAll(List.of(row[0].split(", ")));
        }
        Set<String> tests = testFiles();
        tests.removeIf(name -> !name.endsWith("Test"));
        check.due("tests", named.toString(), tests.toString());
    }

    /** A main method in a file of another name would never be run. */
    private static void onlyTestsHaveAMainMethod() throws IOException {
        for (String name : testFiles()) {
            String source = Files.readString(Path.of("src/test/java", name + ".java"));
            boolean hasMain = source.contains("    public static void main(String[] args)");
            check.due(name + " has a main method", hasMain, name.endsWith("Test"));
        }
    }
}
