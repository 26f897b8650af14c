import java.lang.reflect.Method;
import java.nio.file.Files;
import java.nio.file.Path;
import java.util.LinkedHashMap;
import java.util.List;
import java.util.Map;
import java.util.regex.Matcher;
import java.util.regex.Pattern;

/**
 * Runs each test of a sentence, and holds the words that it names against the document. With the
 * argument 'bare' it prints the words of the document that no test names.
 */
public final class SentencesTest {
    private static final Path DOCUMENT = Path.of("../shared/DOC.md");
    private static final int TERMS = 5;
    private static final int PROMISES = 22;

    private SentencesTest() {
    }

    public static void main(String[] args) throws Exception {
        Due due = new Due("SentencesTest");
        Map<String, String> sections = sections(Files.readString(DOCUMENT));
        due.same("sections of the document", sections.size(), 1 + TERMS + PROMISES);
        List<Method> all = Sentences.all();
        for (Method method : all) {
            Says says = method.getAnnotation(Says.class);
            String name = Sentences.nameOf(method);
            String section = sections.getOrDefault(says.where(), "");
            due.same(name + ": '" + says.words() + "' stands in " + says.where(), section.contains(says.words()), true);
            due.same(name + ": it can be broken", method.getAnnotationsByType(Broken.class).length > 0, true);
            due.same(name, Sentences.wrongOf(method, true), 0);
        }
        for (String where : sections.keySet()) {
            boolean isNamed = all.stream().anyMatch(m -> m.getAnnotation(Says.class).where().equals(where));
            due.same(where + " has tests", isNamed, true);
        }
        if (args.length > 0 && args[0].equals("bare")) {
            sections.forEach((where, section) -> printBare(where, section, all));
        }
        System.out.println("SentencesTest: " + all.size() + " sentences");
        due.end();
    }

    /** The document's text by its heads, each on one line. */
    private static Map<String, String> sections(String document) {
        Map<String, String> sections = new LinkedHashMap<>();
        Pattern head = Pattern.compile("(?m)^(?:## (What it is)|## (Promise \\d+)|(\\d)\\. |## .*)");
        Matcher m = head.matcher(document);
        String name = null;
        int from = 0;
        while (m.find()) {
            put(sections, name, document.substring(from, m.start()));
            from = m.end();
            name = m.group(1) != null ? m.group(1) : m.group(2) != null ? m.group(2)
                : m.group(3) != null ? "Term " + m.group(3) : null;
        }
        put(sections, name, document.substring(from));
        return sections;
    }

    private static void put(Map<String, String> sections, String name, String text) {
        if (name != null) {
            sections.put(name, text.replaceAll("\\s+", " ").trim());
        }
    }

    private static void printBare(String where, String section, List<Method> all) {
        boolean[] isNamed = new boolean[section.length()];
        for (Method method : all) {
            Says says = method.getAnnotation(Says.class);
            int at = says.where().equals(where) ? section.indexOf(says.words()) : -1;
            while (at >= 0) {
                java.util.Arrays.fill(isNamed, at, at + says.words().length(), true);
                at = section.indexOf(says.words(), at + 1);
            }
        }
        StringBuilder bare = new StringBuilder();
        for (int k = 0; k < section.length(); k++) {
            bare.append(isNamed[k] ? k > 0 && isNamed[k - 1] ? "" : " | " : section.charAt(k));
        }
        System.out.println(where + ": " + bare);
    }
}
