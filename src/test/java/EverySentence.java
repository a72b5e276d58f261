import java.io.IOException;
import java.lang.reflect.Method;
import java.util.ArrayList;
import java.util.List;

/** Each sentence of Terms and of Promises 1 to 23 has a test that says so, and each test's words are the document's. */
public final class EverySentence {
    private static final Class<?>[] TESTS = {
        SentencesOfLedger.class, SentencesOfRefusal.class, SentencesOfHashes.class, SentencesOfEntries.class,
        SentencesOfReading.class, SentencesOfTrails.class, SentencesOfAudit.class
    };
    private static int wrong = 0;

    public static void main(String[] args) throws IOException {
        Document document = new Document();
        List<Says> said = said();
        for (Says says : said) {
            for (String words : says.words()) {
                must(document.says(says.in(), words), says.in() + " says '" + words + "'");
            }
        }
        for (String section : document.sections()) {
            for (String left : document.leftOf(section, wordsOf(section, said))) {
                must(false, section + " says '" + left + "', and a test does");
            }
        }
        must(document.sections().size() == 24, "there are Terms and 23 promises");
        if (wrong != 0) {
            System.exit(1);
        }
        System.out.println(said.size() + " tests say all of " + document.sections().size() + " sections");
    }

    private static void must(boolean so, String what) {
        if (!so) {
            wrong++;
            System.out.println("not so: " + what);
        }
    }

    private static List<Says> said() {
        List<Says> said = new ArrayList<>();
        for (Class<?> tests : TESTS) {
            for (Method test : tests.getDeclaredMethods()) {
                if (test.isAnnotationPresent(Says.class)) {
                    said.add(test.getAnnotation(Says.class));
                }
            }
        }
        return said;
    }

    private static List<String> wordsOf(String section, List<Says> said) {
        List<String> words = new ArrayList<>();
        for (Says says : said) {
            if (says.in().equals(section)) {
                words.addAll(List.of(says.words()));
            }
        }
        return words;
    }
}
