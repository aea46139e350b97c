import java.util.ArrayList;
import java.util.List;

/** The sentences of the document, section by section, each with the test that is its own. */
final class Sentences {
    private record Sentence(String section, String words, Runnable test) {
    }

    private final List<Sentence> all = new ArrayList<>();
    private String section = "";

    /** Begins a section; it bears the name of its heading, up to a colon. */
    void section(String name) {
        section = name;
    }

    /** The words are the document's own, without its quotation marks for code. */
    void says(String words, Runnable test) {
        all.add(new Sentence(section, words, test));
    }

    /** Words that promise nothing: they only name what follows. */
    void heads(String words) {
        all.add(new Sentence(section, words, null));
    }

    /** Runs all tests; one that compares nothing is wrong, or one that does not come to its end. */
    void run(Check check) {
        for (Sentence sentence : all) {
            if (sentence.test != null) {
                check.sentence(sentence.section, sentence.words);
                int before = check.compared();
                run(check, sentence.test);
                check.isTrue("it has a test", check.compared() > before);
            }
        }
    }

    /** A sentence that is broken shall not keep the others from being tested. */
    private static void run(Check check, Runnable test) {
        try {
            test.run();
        } catch (RuntimeException exception) {
            check.isTrue("no " + exception, false);
        }
    }

    /** Compares them with a section of the document: all its words, and no others. */
    void compare(Check check, String name, String text) {
        String untold = text;
        for (Sentence sentence : all) {
            if (sentence.section.equals(name)) {
                check.sentence(name, sentence.words);
                int at = untold.indexOf(sentence.words);
                check.isTrue("the document says so", at >= 0);
                if (at >= 0) {
                    int end = at + sentence.words.length();
                    untold = untold.substring(0, at) + "|" + untold.substring(end);
                }
            }
        }
        check.sentence(name, untold.replaceAll("[| ]+", " ").trim());
        check.isTrue("no words are left without a test", untold.matches("[| ]*"));
    }
}
