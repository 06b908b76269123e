import java.io.IOException;
import java.lang.reflect.Method;
import java.nio.file.Files;
import java.nio.file.Path;
import java.util.BitSet;
import java.util.Map;
import java.util.TreeMap;
import java.util.regex.Matcher;
import java.util.regex.Pattern;

/** Each sentence of the document is the words of a case, and each case's words stand in the document. */
public final class DocumentTest {
    private static final Path DOCUMENT = Path.of("../shared/DOC.md");
    private static final Class<?>[] TESTS = {RowsTest.class, TextsTest.class, DoneTest.class, ForetoldTest.class,
        ReckonedTest.class, AskedTest.class};
    private static final int PROMISES = 40, TERMS = 0;
    private static final Pattern PROMISE = Pattern.compile("## Promise (\\d+): [^\n]+\n\n`[^`]*`: ([^\n]*)");
    private static final Pattern NAME = Pattern.compile("p(\\d\\d)_\\w+");

    private final Map<Integer, String> texts = new TreeMap<>();
    private final Map<Integer, BitSet> said = new TreeMap<>();

    public static void main(String[] args) throws IOException {
        DocumentTest test = new DocumentTest(Files.readString(DOCUMENT));
        for (Class<?> one : TESTS) {
            Cases.of(one).forEach(test::hear);
        }
        test.nothingIsLeftOut();
        Due.end();
    }

    /** The promises by their numbers; by 0 what they rest on: the terms and the four parts. */
    private DocumentTest(String document) {
        String terms = document.substring(document.indexOf("## Terms"), document.indexOf("Ahead of the calls"));
        texts.put(TERMS, plain(terms.replace("## Terms", "").replace("```text", "").replace("```", "")
            .replaceAll("======== \\d", "")));
        Matcher promise = PROMISE.matcher(document);
        while (promise.find()) {
            texts.put(Integer.parseInt(promise.group(1)), plain(promise.group(2)));
        }
        Due.is("promises in the document", texts.size() - 1, PROMISES);
        texts.keySet().forEach(i -> said.put(i, new BitSet()));
    }

    private static String plain(String text) {
        return text.replaceAll("\\s+", " ").trim();
    }

    private void hear(Method one) {
        Matcher name = NAME.matcher(one.getName());
        int promise = name.matches() ? Integer.parseInt(name.group(1)) : 0;
        Due.is(one.getName() + " is named by a promise", promise >= 1 && promise <= PROMISES ? 1 : 0, 1);
        for (String words : one.getAnnotation(Says.class).value()) {
            boolean found = mark(promise, words) || mark(TERMS, words);
            Due.is(one.getName() + ", words of the document: " + words, found ? 1 : 0, 1);
        }
    }

    private boolean mark(int part, String words) {
        String text = texts.getOrDefault(part, "");
        boolean found = false;
        for (int at = text.indexOf(words); at >= 0; at = text.indexOf(words, at + 1)) {
            said.get(part).set(at, at + words.length());
            found = true;
        }
        return found;
    }

    private void nothingIsLeftOut() {
        texts.forEach((part, text) -> {
            StringBuilder left = new StringBuilder();
            for (int i = 0; i < text.length(); i++) {
                left.append(said.get(part).get(i) ? '|' : text.charAt(i));
            }
            for (String words : left.toString().split("\\|+")) {
                Due.is("no case has these words of " + (part == TERMS ? "the terms" : "promise " + part) + ": " + words,
                    words.matches(".*[A-Za-z0-9].*") ? 1 : 0, 0);
            }
        });
    }
}
