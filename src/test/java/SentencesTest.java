import java.nio.file.Files;
import java.nio.file.Path;

/** Each sentence of the document, in its order, by a test of its own; none is left out. */
public final class SentencesTest {
    static final Check check = new Check("SentencesTest");

    /** The first argument is the project's folder; without one it is the working directory. */
    public static void main(String[] arguments) throws Exception {
        Path project = Path.of(arguments.length > 0 ? arguments[0] : ".");
        String document = Files.readString(project.resolve("../shared/DOC.md"));
        Sentences all = new Sentences();
        WalkAndSeamSentences.tell(all);
        PartAndWaySentences.tell(all);
        ErrorSentences.tell(all);
        MapSentences.tell(all);
        TextSentences.tell(all);
        EditSentences.tell(all);
        PartSentences.tell(all);
        DistanceSentences.tell(all);
        all.run(check);
        compareWith(all, document);
        check.end();
    }

    private static void compareWith(Sentences all, String document) {
        for (String section : document.split("(?m)^#+ ")) {
            int end = section.indexOf('\n');
            String heading = end < 0 ? section : section.substring(0, end);
            String name = heading.contains(":") ? heading.substring(0, heading.indexOf(':'))
                    : heading;
            if (isPromising(name)) {
                all.compare(check, name, words(section.substring(heading.length())));
            }
        }
    }

    /** The face is RulesTest's. */
    private static boolean isPromising(String name) {
        return name.startsWith("Promise ") || name.equals("Description")
                || name.equals("What it is");
    }

    /** A section in one row, without signatures, rulers, marks of lists and of code. */
    private static String words(String section) {
        return section.replaceAll("(?m)^(`(int )?\\w+\\([^`]*\\)`|---- .*)$", "")
                .replaceAll("(?m)^- ", "").replace("`", "").replaceAll("\\s+", " ");
    }
}
