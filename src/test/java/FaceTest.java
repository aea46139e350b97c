import java.nio.file.Files;
import java.nio.file.Path;
import java.util.ArrayList;
import java.util.List;

/** The face of the class as the document prints it, and what README.md says of its calls. */
public final class FaceTest {
    private static final Check check = new Check("FaceTest");

    /** The first argument is the project's folder; without one it is the working directory. */
    public static void main(String[] arguments) throws Exception {
        Path project = Path.of(arguments.length > 0 ? arguments[0] : ".");
        String document = Files.readString(project.resolve("../shared/DOC.md"));
        String source = Files.readString(project.resolve("src/main/java/SeamMap.java"));
        String readme = Files.readString(project.resolve("README.md"));
        List<String> face = documentFace(document);
        check.due("rows of the document's face", face.size(), 1 + 5 + 1 + 23);
        same("the face", publicRows(source), face);
        same("the promises", promises(document), methods(face));
        callsOf(readme, methods(face));
        exampleOf(readme);
        check.end();
    }

    private static void same(String what, List<String> got, List<String> want) {
        check.due("rows of " + what, got.size(), want.size());
        for (int row = 0; row < Math.min(got.size(), want.size()); row++) {
            check.isTrue(what + ": '" + got.get(row) + "' is '" + want.get(row) + "'",
                    got.get(row).equals(want.get(row)));
        }
    }

    /** The rows of the document's Java text, without the signs that end them. */
    private static List<String> documentFace(String document) {
        int begin = document.indexOf("```java\n") + "```java\n".length();
        return publicRows(document.substring(begin, document.indexOf("\n}\n", begin)));
    }

    /** All rows that begin with "public", in their order. */
    private static List<String> publicRows(String text) {
        List<String> rows = new ArrayList<>();
        for (String line : text.split("\n")) {
            String row = line.trim();
            if (row.startsWith("public ")) {
                rows.add(row.replaceAll(" ?[;{]$", ""));
            }
        }
        return rows;
    }

    /** The constructor and the methods of the face, as the promises head them. */
    private static List<String> methods(List<String> face) {
        List<String> rows = new ArrayList<>();
        for (String row : face) {
            if (row.endsWith(")")) {
                rows.add(row.substring("public ".length()));
            }
        }
        return rows;
    }

    /** The signatures that stand below the headings of the promises. */
    private static List<String> promises(String document) {
        List<String> rows = new ArrayList<>();
        for (String section : document.split("(?m)^## Promise \\d+: ")) {
            String[] lines = section.split("\n");
            if (lines.length > 2 && lines[2].matches("`.*\\)`")) {
                rows.add(lines[2].replace("`", ""));
            }
        }
        return rows;
    }

    /** README.md has one row for each method, in the document's order, with its parameters. */
    private static void callsOf(String readme, List<String> methods) {
        List<String> told = new ArrayList<>();
        for (String line : readme.split("\n")) {
            if (line.matches("\\| `\\w+\\(.*\\)` \\| .*")) {
                told.add(line.substring(3, line.indexOf(")`") + 1));
            }
        }
        List<String> due = new ArrayList<>();
        for (String method : methods) {
            if (method.startsWith("int ")) {
                due.add(method.substring(4).replaceAll("\\b(int|boolean|char) ", ""));
            }
        }
        same("the calls in README.md", told, due);
    }

    /** The calls of the example in README.md answer what stands behind them. */
    private static void exampleOf(String readme) {
        SeamMap map = new SeamMap();
        example(readme, "map.reset(4, 3);", map.reset(4, 3), 12);
        example(readme, "map.setSeam(false, 2, 2);", map.setSeam(false, 2, 2), 1);
        example(readme, "map.setTile(5, 1);", map.setTile(5, 1), 0);
        example(readme, "map.neighbour(3, 0);", map.neighbour(3, 0), 8);
        example(readme, "map.ofPart(0, 5);", map.ofPart(0, 5), 1);
        example(readme, "map.distance(0, 11);", map.distance(0, 11), 2);
        example(readme, "map.undo();", map.undo(), 0);
        check.due("calls of the example", readme.split("(?m)^map\\.").length - 1, 7);
    }

    private static void example(String readme, String call, int got, int due) {
        check.due(call, got, due);
        boolean told = false;
        for (String line : readme.split("\n")) {
            told |= line.startsWith(call) && line.matches(".*// " + due + "[,:].*");
        }
        check.isTrue("README.md tells " + due + " behind " + call, told);
    }
}
