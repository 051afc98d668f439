import java.lang.reflect.Method;
import java.nio.file.Files;
import java.nio.file.Path;
import java.util.BitSet;
import java.util.HashMap;
import java.util.List;
import java.util.Map;
import java.util.stream.Collectors;
import java.util.stream.Stream;

/** Every sentence of the document has a test that quotes it, and every quote stands in the document. */
public final class SentencesTest {
    private static final Path TESTS = Path.of("src", "test", "java");
    // What the whole is about, in words that the promises say again; and what is free.
    private static final List<String> NO_PROMISE = List.of(
        "Lakes on a relief: heights come from strips of numbers, some missing; hollows, the ways down, lakes that"
            + " fill, spill over their rims and join, told by one tree; water poured drop by drop, what goes to the"
            + " sea; how high all stands when it rains without end, a sea that rises, islands, rivers.",
        "what later calls answer is free.");
    private static final List<String> NO_SENTENCES = List.of("SentencesTest", "ModelTest", "FaceTest", "ReadmeTest");

    private final Checks checks = new Checks();
    private final Document document = new Document();
    private final Map<String, BitSet> quoted = new HashMap<>();

    public static void main(String[] args) throws Exception {
        SentencesTest test = new SentencesTest();
        for (String words : NO_PROMISE) {
            test.quote("the list of what is no promise", "What it is", words);
        }
        for (String name : sentenceTests()) {
            test.quotesOf(Class.forName(name));
        }
        test.nothingLeft();
        test.checks.end();
    }

    private static List<String> sentenceTests() throws Exception {
        try (Stream<Path> files = Files.list(TESTS)) {
            return files.map(file -> file.getFileName().toString())
                .filter(name -> name.endsWith("Test.java"))
                .map(name -> name.replace(".java", ""))
                .filter(name -> !NO_SENTENCES.contains(name))
                .sorted().collect(Collectors.toList());
        }
    }

    private void quotesOf(Class<?> test) {
        for (Method method : test.getDeclaredMethods()) {
            if (Checks.isTest(method)) {
                String name = test.getName() + "." + method.getName();
                Says says = method.getAnnotation(Says.class);
                checks.holds(name + " quotes the document", says != null && says.words().length > 0);
                if (says != null) {
                    Stream.of(says.words()).forEach(words -> quote(name, says.in(), words));
                }
            }
        }
    }

    private void quote(String name, String section, String words) {
        int at = document.find(section, words);
        checks.holds(name + ": '" + words + "' stands once in " + section, at >= 0);
        if (at >= 0) {
            quoted.computeIfAbsent(section, key -> new BitSet()).set(at, at + words.length());
        }
    }

    private void nothingLeft() {
        document.sections().forEach((section, text) -> {
            BitSet known = quoted.getOrDefault(section, new BitSet());
            StringBuilder left = new StringBuilder();
            for (int at = 0; at < text.length(); at++) {
                left.append(known.get(at) ? '|' : text.charAt(at));
            }
            for (String piece : left.toString().split("\\|+")) {
                checks.holds(section + ": no test quotes '" + piece + "'", !piece.matches(".*[A-Za-z0-9].*"));
            }
        });
        checks.due("sections", 19, document.sections().size());
    }
}
