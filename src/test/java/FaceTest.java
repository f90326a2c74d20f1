import java.lang.reflect.Constructor;
import java.lang.reflect.Field;
import java.lang.reflect.Method;
import java.lang.reflect.Modifier;
import java.nio.file.Files;
import java.nio.file.Path;
import java.util.Map;
import java.util.Set;
import java.util.TreeMap;
import java.util.TreeSet;
import java.util.regex.Matcher;
import java.util.regex.Pattern;

/** The public face, the constants, and those rules of LANGUAGE.md that can be looked up. */
public final class FaceTest {
    private static final Check check = new Check();

    public static void main(String[] args) throws Exception {
        theClassIsPublicAndFinal();
        theConstants();
        theMembersThatOthersSee();
        privateMembers();
        theSource();
        theMethods();
        check.end();
    }

    private static void theClassIsPublicAndFinal() {
        int modifiers = TextDelta.class.getModifiers();
        check.due("modifiers", Modifier.toString(modifiers), "public final");
        check.due("package", TextDelta.class.getPackageName(), "");
        check.due("nested classes", TextDelta.class.getDeclaredClasses().length, 0);
    }

    private static void theConstants() {
        check.due("BAD_ARG", TextDelta.BAD_ARG, -1);
        check.due("FULL", TextDelta.FULL, -2);
        check.due("BAD_LENGTH", TextDelta.BAD_LENGTH, -3);
        check.due("NONE", TextDelta.NONE, -4);
        check.due("KEEP", TextDelta.KEEP, 1);
        check.due("DROP", TextDelta.DROP, 2);
        check.due("ADD", TextDelta.ADD, 3);
    }

    private static void theMembersThatOthersSee() {
        Set<String> due = new TreeSet<>();
        for (String name : "BAD_ARG FULL BAD_LENGTH NONE KEEP DROP ADD".split(" ")) {
            due.add("public static final int TextDelta." + name);
        }
        due.add("public TextDelta()");
        for (String head : ("int begin(int);int keep(int);int drop(int);int add(int);int finish(int);"
                + "int join(int,int,int);int carry(int,int,int,int);int apply(int,int);int type(int);"
                + "void clear();int length();int at(int);int inLength(int);int outLength(int);"
                + "int runs(int);int run(int,int);int added(int,int);boolean same(int,int)").split(";")) {
            due.add("public " + head.replace(" ", " TextDelta."));
        }
        Set<String> seen = new TreeSet<>();
        for (Field field : TextDelta.class.getDeclaredFields()) {
            addUnlessPrivate(seen, field.getModifiers(), field.toString());
        }
        for (Constructor<?> constructor : TextDelta.class.getDeclaredConstructors()) {
            addUnlessPrivate(seen, constructor.getModifiers(), constructor.toString());
        }
        for (Method method : TextDelta.class.getDeclaredMethods()) {
            addUnlessPrivate(seen, method.getModifiers(), method.toString());
        }
        check.due("members", seen.toString(), due.toString());
    }

    private static void addUnlessPrivate(Set<String> seen, int modifiers, String member) {
        if (!Modifier.isPrivate(modifiers)) {
            seen.add(member);
        }
    }

    private static void privateMembers() {
        Set<String> publicNames = new TreeSet<>();
        for (Method method : TextDelta.class.getMethods()) {
            publicNames.add(method.getName());
        }
        for (Method method : TextDelta.class.getDeclaredMethods()) {
            boolean hidden = Modifier.isPrivate(method.getModifiers());
            check.due(method + " has a public name", hidden && publicNames.contains(method.getName()), false);
            check.due(method + " has over 7 parameters", method.getParameterCount() > 7, false);
        }
        int fields = 0;
        for (Field field : TextDelta.class.getDeclaredFields()) {
            if (Modifier.isStatic(field.getModifiers())) {
                check.due(field + " is a final int or long", Modifier.isFinal(field.getModifiers())
                    && (field.getType() == int.class || field.getType() == long.class), true);
            } else {
                fields++;
                Class<?> type = field.getType();
                Class<?> plain = type.isArray() ? type.getComponentType() : type;
                check.due(field + " is of numbers", plain.isPrimitive()
                    && plain != float.class && plain != double.class, true);
            }
        }
        check.due("fields up to 40", fields <= 40, true);
    }

    private static String code() throws Exception {
        String source = Files.readString(Path.of("src/main/java/TextDelta.java"));
        return source.replaceAll("(?s)/\\*.*?\\*/", " ").replaceAll("//[^\n]*", " ");
    }

    private static void theSource() throws Exception {
        String code = code();
        String[] ruledOut = {
            "import", "package", "String", "Math", "Integer", "System", "Arrays", "Object", "float", "double",
            "null", "throw", "throws", "try", "catch", "synchronized", "assert", "instanceof", "enum", "record",
            "interface", "this\\s*\\.\\s*(getClass|hashCode|equals|toString|wait|notify)"};
        for (String word : ruledOut) {
            check.due("'" + word + "' in the source", found(code, "\\b" + word + "\\b"), false);
        }
        check.due("a lambda or a method reference", found(code, "->|::"), false);
        check.due("a text", found(code, "\""), false);
        check.due("a division", found(code, "[/%]"), false);
        check.due("an array of arrays", found(code, "\\]\\s*\\["), false);
        Matcher made = Pattern.compile("(?m)^.*\\bnew\\b.*$").matcher(code);
        while (made.find()) {
            check.due("made in a field's initialiser:" + made.group(),
                made.group().matches(" {4}private final int\\[\\] \\w+ = new int\\[[A-Z_]+\\];"), true);
        }
        check.due("a call inside the arguments of a call", callInsideACall(code), "");
    }

    private static boolean found(String code, String pattern) {
        return Pattern.compile(pattern).matcher(code).find();
    }

    /** The first call that stands inside another call's brackets, or nothing. */
    private static String callInsideACall(String code) {
        Matcher call = Pattern.compile("\\b(\\w+)\\(").matcher(code);
        while (call.find()) {
            int depth = 1;
            int end = call.end();
            while (depth > 0) {
                depth += code.charAt(end) == '(' ? 1 : code.charAt(end) == ')' ? -1 : 0;
                end++;
            }
            String inside = code.substring(call.end(), end - 1);
            if (found(inside, "\\w\\(")) {
                return code.substring(call.start(), end);
            }
        }
        return "";
    }

    private static void theMethods() throws Exception {
        Map<String, String> bodies = new TreeMap<>();
        Matcher method = Pattern.compile("(?ms)^ {4}(?:public|private) [^=;]*?(\\w+)\\([^)]*\\) \\{\n(.*?)^ {4}\\}$")
            .matcher(code());
        while (method.find()) {
            bodies.put(method.group(1), method.group(2));
        }
        check.due("methods", bodies.size(), TextDelta.class.getDeclaredMethods().length + 1);
        for (Map.Entry<String, String> body : bodies.entrySet()) {
            check.due(body.getKey() + " is short", body.getValue().split("\n").length <= 60, true);
            check.due(body.getKey() + " goes at most six deep", depth(bodies, body.getKey(), 1) <= 6, true);
        }
    }

    /** How many methods deep the calls go from this one, which is endless for a recursion. */
    private static int depth(Map<String, String> bodies, String name, int soFar) {
        int deepest = soFar;
        Matcher call = Pattern.compile("\\b(\\w+)\\(").matcher(bodies.get(name));
        while (soFar <= 6 && call.find()) {
            if (bodies.containsKey(call.group(1))) {
                deepest = Math.max(deepest, depth(bodies, call.group(1), soFar + 1));
            }
        }
        return deepest;
    }
}
