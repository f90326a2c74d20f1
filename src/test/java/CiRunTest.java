import java.nio.file.Files;
import java.nio.file.Path;

/**
 * The command that README.md names for the tests, tried out on small projects: it
 * runs all tests of both folders, and fails if one fails.
 */
public final class CiRunTest {
    private static final Check check = new Check();
    private static final String PASSES = "System.out.println(new TextDelta().type(5));";
    private static final String FAILS = "System.out.println(new TextDelta().type(5)); System.exit(1);";
    private static final String THROWS = "new int[new TextDelta().type(10)].clone();";
    private static final String DOES_NOT_COMPILE = "new TextDelta().untype(5);";
    private static final String WITH_A_HELPER = "Helper.say();";

    private static String command;

    public static void main(String[] args) throws Exception {
        command = new Readme().blocks("sh").get(1).trim();
        theCommandIsAScriptThatCanBeRun();
        allTestsOfBothFoldersAreRun();
        itCanBeCalledFromAnyFolder();
        itFailsIfOneTestFailsAndRunsTheOthers();
        itFailsIfTheClassDoesNotCompile();
        itFailsIfAFolderHasNoTest();
        check.end();
    }

    private static void theCommandIsAScriptThatCanBeRun() throws Exception {
        check.due("command", command, ".ci/run");
        check.due(command + " can be run", Files.isExecutable(Path.of(command)), true);
        check.due(command, Files.readAllLines(Path.of(command)).get(0), "#!/bin/sh");
    }

    private static String program(String name, String body) {
        return "public class " + name + " { public static void main(String[] args) { " + body + " } }";
    }

    /** A project with two tests and a helper, and with two tests in the shared folder. */
    private static Folder project() throws Exception {
        Folder folder = new Folder();
        folder.copy(".ci/run", "project/.ci/run");
        folder.copy("src/main/java/TextDelta.java", "project/src/main/java/TextDelta.java");
        folder.write("project/src/test/java/Helper.java", "class Helper { static void say() { System.out.println(6); } }");
        folder.write("project/src/test/java/OneTest.java", program("OneTest", PASSES));
        folder.write("project/src/test/java/TwoTest.java", program("TwoTest", WITH_A_HELPER));
        folder.write("shared/tests/Three.java", program("Three", PASSES));
        folder.write("shared/tests/Four.java", program("Four", PASSES));
        return folder;
    }

    /** By its shell, as a folder for the time of a test may be one that nothing is run from. */
    private static Folder.Ended run(Folder folder) throws Exception {
        return folder.run("project", "sh " + command);
    }

    private static void due(String what, Folder.Ended ended, int code, String lastLine) {
        check.due(what + " ends with", ended.code(), code);
        String[] lines = ended.printed().split("\n");
        check.due(what + " says at last", lines[lines.length - 1], lastLine);
    }

    private static void allTestsOfBothFoldersAreRun() throws Exception {
        try (Folder folder = project()) {
            Folder.Ended ended = run(folder);
            due("all pass", ended, 0, "4 passed, 0 failed");
            check.due("all pass", ended.printed(), "== src/test/java/OneTest.java\n1\n"
                + "== src/test/java/TwoTest.java\n6\n"
                + "== ../shared/tests/Four.java\n1\n== ../shared/tests/Three.java\n1\n4 passed, 0 failed\n");
            check.due("left behind", folder.run("project", "ls; ls src/test/java").printed(),
                "src\nHelper.java\nOneTest.java\nTwoTest.java\n");
        }
    }

    private static void itCanBeCalledFromAnyFolder() throws Exception {
        try (Folder folder = project()) {
            due("from another folder", folder.run("shared/tests", "sh ../../project/" + command), 0, "4 passed, 0 failed");
        }
    }

    private static void itFailsIfOneTestFailsAndRunsTheOthers() throws Exception {
        oneFailing("project/src/test/java/", "OneTest", FAILS);
        oneFailing("project/src/test/java/", "TwoTest", DOES_NOT_COMPILE);
        oneFailing("shared/tests/", "Three", FAILS);
        oneFailing("shared/tests/", "Four", THROWS);
    }

    private static void oneFailing(String inside, String name, String body) throws Exception {
        try (Folder folder = project()) {
            folder.write(inside + name + ".java", program(name, body));
            Folder.Ended ended = run(folder);
            due(name + " with " + body, ended, 1, "3 passed, 1 failed");
            check.due(name + " is named", ended.printed().contains("FAILED: "
                + (inside + name).replace("project/", "").replace("shared/", "../shared/") + ".java\n"), true);
        }
    }

    private static void itFailsIfTheClassDoesNotCompile() throws Exception {
        try (Folder folder = project()) {
            folder.write("project/src/main/java/TextDelta.java", "public final class TextDelta { int }");
            due("no class", run(folder), 1, "0 passed, 4 failed");
        }
    }

    private static void itFailsIfAFolderHasNoTest() throws Exception {
        try (Folder folder = project()) {
            folder.delete("project/src/test/java/OneTest.java");
            folder.delete("project/src/test/java/TwoTest.java");
            due("no project test", run(folder), 1, "2 passed, 1 failed");
        }
        try (Folder folder = project()) {
            folder.delete("shared/tests/Three.java");
            folder.delete("shared/tests/Four.java");
            due("no shared test", run(folder), 1, "2 passed, 1 failed");
        }
    }
}
