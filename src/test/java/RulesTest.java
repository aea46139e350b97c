import java.lang.reflect.Constructor;
import java.lang.reflect.Field;
import java.lang.reflect.Method;
import java.lang.reflect.Modifier;
import java.nio.file.Files;
import java.nio.file.Path;
import java.util.Set;
import java.util.TreeSet;
import java.util.regex.Matcher;
import java.util.regex.Pattern;

/** The face that the document prints, and what of the rules of LANGUAGE.md a test can see. */
public final class RulesTest {
    private static final String[] FACE = {
        "int reset(int,int)", "int setSeam(boolean,int,int)", "int value(int)", "int kind(int)",
        "int neighbour(int,int)", "int type(char)", "int clearText()", "int readTiles()",
        "int walk(int,int,int)", "int setTile(int,int)", "int fill(int,int)", "int undo()",
        "int label(int)", "int part(int)", "int ofPart(int,int)", "int greatestPart(int)",
        "int partsIf(int,int)", "int setWeight(int,int)", "int distance(int,int)",
        "int route(int,int,int)", "int farthest(int)", "int within(int,int)", "int nearest(int,int)"
    };
    private static final String[] CONSTANTS = {"UNKNOWN", "BAD_VALUE", "FULL", "NO_WAY", "NONE"};
    private static final String FORBIDDEN = "\\b(import|package|throw|throws|try|catch|finally"
            + "|synchronized|assert|instanceof|double|float|Object|Exception|protected|native"
            + "|volatile|transient|var|yield)\\b|->|::|@|%|/(?!=)|\\bstatic\\s*\\{";

    private static final Check check = new Check("RulesTest");

    /** The first argument is the project's folder; without one it is the working directory. */
    public static void main(String[] arguments) throws Exception {
        Path project = Path.of(arguments.length > 0 ? arguments[0] : ".");
        String source = Files.readString(project.resolve("src/main/java/SeamMap.java"));
        constants();
        face();
        namesInside();
        String code = withoutComments(source);
        words(code);
        madeWithTheObject(code);
        methods(code);
        check.end();
    }

    private static void constants() throws Exception {
        for (int i = 0; i < CONSTANTS.length; i++) {
            Field field = SeamMap.class.getDeclaredField(CONSTANTS[i]);
            check.due(CONSTANTS[i], field.getInt(null), -1 - i);
            check.due("modifiers of " + CONSTANTS[i], field.getModifiers(),
                    Modifier.PUBLIC | Modifier.STATIC | Modifier.FINAL);
        }
        Set<String> names = Set.of(CONSTANTS);
        for (Field field : SeamMap.class.getDeclaredFields()) {
            check.isTrue("field " + field.getName() + " is private or of the face",
                    Modifier.isPrivate(field.getModifiers()) || names.contains(field.getName()));
        }
    }

    private static void face() {
        check.due("modifiers of the class", SeamMap.class.getModifiers(),
                Modifier.PUBLIC | Modifier.FINAL);
        Constructor<?>[] constructors = SeamMap.class.getDeclaredConstructors();
        check.due("number of constructors", constructors.length, 1);
        check.due("its parameters", constructors[0].getParameterCount(), 0);
        check.due("its modifiers", constructors[0].getModifiers(), Modifier.PUBLIC);
        Set<String> found = new TreeSet<>();
        for (Method method : SeamMap.class.getDeclaredMethods()) {
            if (Modifier.isPrivate(method.getModifiers())) {
                continue;
            }
            StringBuilder row = new StringBuilder(method.getReturnType() + " " + method.getName());
            row.append('(');
            for (Class<?> type : method.getParameterTypes()) {
                row.append(row.charAt(row.length() - 1) == '(' ? "" : ",").append(type);
            }
            found.add(row.append(')').toString());
            check.due("modifiers of " + row, method.getModifiers(), Modifier.PUBLIC);
        }
        check.isTrue("the face is " + found, found.equals(new TreeSet<>(Set.of(FACE))));
    }

    private static void namesInside() {
        Set<String> names = new TreeSet<>();
        for (String row : FACE) {
            names.add(row.substring(4, row.indexOf('(')));
        }
        Class<?>[] inside = SeamMap.class.getDeclaredClasses();
        check.isTrue("some twelve classes", inside.length <= 12);
        for (Method method : SeamMap.class.getDeclaredMethods()) {
            check.isTrue("private " + method.getName() + " bears no public name",
                    !Modifier.isPrivate(method.getModifiers())
                            || !names.contains(method.getName()));
        }
        for (Class<?> type : inside) {
            check.isTrue(type + " is static", Modifier.isStatic(type.getModifiers()));
            check.isTrue(type + " is not public", !Modifier.isPublic(type.getModifiers()));
            check.isTrue("fields of " + type, type.getDeclaredFields().length <= 20);
            for (Method method : type.getDeclaredMethods()) {
                check.isTrue(method + " bears no public name", !names.contains(method.getName()));
            }
        }
    }

    private static String withoutComments(String source) {
        return source.replaceAll("(?s)/\\*.*?\\*/", "").replaceAll("//[^\n]*", "")
                .replaceAll("'[^']'", "' '");
    }

    private static void words(String code) {
        Matcher matcher = Pattern.compile(FORBIDDEN).matcher(code);
        while (matcher.find()) {
            check.isTrue("no '" + matcher.group() + "' in the class", false);
        }
        for (char character : code.toCharArray()) {
            if (character > 126 || character < ' ' && character != '\n') {
                check.isTrue("no character " + (int) character + " in the class", false);
            }
        }
    }

    /** What a run makes is counted, so nothing is made but by the constructor. */
    private static void madeWithTheObject(String code) {
        int made = 0;
        for (String line : code.split("\n")) {
            if (line.matches(".*\\bnew\\b.*")) {
                made++;
                check.isTrue("made with the object:" + line,
                        line.matches(" +(private final )?[\\w\\[\\] ]+ = new [^;]*;"));
            }
        }
        check.isTrue("something is made", made > 0);
        String constructor = code.substring(code.indexOf("public SeamMap()"));
        constructor = constructor.substring(0, constructor.indexOf("\n    }"));
        int inFields = code.split("private final [\\w\\[\\]]+ \\w+ = new ").length - 1;
        int inConstructor = constructor.split("\\bnew\\b").length - 1;
        check.due("made in fields and in the constructor", inFields + inConstructor, made);
    }

    private static void methods(String code) {
        Matcher matcher = Pattern.compile("(?m)^( +)[\\w\\[\\] ]+\\(([^)]*)\\) \\{$").matcher(code);
        int found = 0;
        while (matcher.find()) {
            String head = matcher.group().trim();
            if (head.matches("(if|for|while|switch|else|do)\\b.*")) {
                continue;
            }
            found++;
            int end = code.indexOf("\n" + matcher.group(1) + "}", matcher.end());
            long lines = code.substring(matcher.end(), end).lines().count();
            check.isTrue(head + " has " + lines + " lines", lines <= 60);
            check.isTrue(head + " has few parameters", matcher.group(2).split(",").length <= 7);
        }
        check.isTrue("methods are found", found > FACE.length);
    }
}
