import java.io.IOException;
import java.lang.reflect.InvocationTargetException;
import java.lang.reflect.Method;
import java.nio.file.Files;
import java.nio.file.Path;
import java.util.Arrays;
import java.util.Comparator;
import java.util.List;
import java.util.Set;
import java.util.TreeSet;

/**
 * The boundary cases of the document, sentence by sentence: each test says for which one it stands,
 * and what is wrong is told with its words. No words of a promise or a term may be without a test.
 */
public final class LimitsTest {
    private static final int PROMISES = 29;
    private static final Path DOCUMENT = Path.of("../shared/DOC.md");
    private static final List<Class<?>> GROUPS = List.of(LimitsOfCities.class, LimitsOfTexts.class,
            LimitsOfFlaws.class, LimitsOfTree.class, LimitsOfMatching.class, LimitsOfRound.class,
            LimitsOfTours.class, LimitsOfBettering.class, LimitsOfBounds.class);

    public static void main(String[] args) throws IOException, IllegalAccessException {
        List<Method> tests = GROUPS.stream()
                .flatMap(group -> Arrays.stream(group.getDeclaredMethods()))
                .filter(method -> method.isAnnotationPresent(Says.class))
                .sorted(Comparator.comparingInt((Method test) -> test.getAnnotation(Says.class).promise())
                        .thenComparing(Method::getName))
                .toList();
        for (Method test : tests) {
            run(test);
        }
        Due.about("");
        Set<Integer> promises = new TreeSet<>();
        tests.forEach(test -> promises.add(test.getAnnotation(Says.class).promise()));
        for (int promise = 1; promise <= PROMISES; promise++) {
            Due.that(promises.contains(promise), "promise " + promise + " has a test");
        }
        compareWithDocument(tests);
        System.out.println(tests.size() + " tests of single sentences");
        Due.end();
    }

    private static void run(Method test) throws IllegalAccessException {
        Says says = test.getAnnotation(Says.class);
        Due.about("promise " + says.promise() + ", \"" + says.words() + "\": ");
        int before = Due.asked();
        try {
            test.invoke(null);
        } catch (InvocationTargetException thrown) {
            Due.that(false, test.getName() + " ends without " + thrown.getCause());
        }
        Due.that(Due.asked() > before, test.getName() + " asks something");
    }

    private static void compareWithDocument(List<Method> tests) throws IOException {
        if (!Files.isReadable(DOCUMENT)) {
            System.out.println("no " + DOCUMENT + " here: its words are not compared");
            return;
        }
        Document document = new Document(DOCUMENT);
        for (Method test : tests) {
            Says says = test.getAnnotation(Says.class);
            Due.that(document.says(says.promise(), says.words()),
                    "the document says \"" + says.words() + "\" (" + test.getName() + ")");
        }
        document.untested().forEach((part, words) ->
                Due.that(words.isEmpty(), "part " + part + " has no words without a test: " + words));
    }
}
