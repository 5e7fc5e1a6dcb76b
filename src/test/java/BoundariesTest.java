import java.io.IOException;
import java.lang.reflect.InvocationTargetException;
import java.lang.reflect.Method;
import java.nio.file.Files;
import java.nio.file.Path;
import java.util.ArrayList;
import java.util.Comparator;
import java.util.List;
import java.util.function.Supplier;
import java.util.regex.Matcher;
import java.util.regex.Pattern;
import java.util.stream.Stream;

/**
 * Runs the test of each sentence that names a boundary case, and looks whether each finding that a
 * promise tells stands in a sentence that has a test.
 */
public final class BoundariesTest {
    private static final Path DOCUMENT = Path.of("../shared/DOC.md");
    private static final int PROMISES = 45;
    private static final List<Supplier<Boundaries>> PARTS = List.of(
        TermBoundaries::new, LandBoundaries::new, SegmentBoundaries::new, FieldBoundaries::new, SearchBoundaries::new,
        WayBoundaries::new, RowBoundaries::new, TextBoundaries::new, SheetBoundaries::new, ImageBoundaries::new);

    private static final List<Says> SENTENCES = new ArrayList<>();
    private static int asked;
    private static int wrong;

    public static void main(String[] args) throws IOException, IllegalAccessException {
        for (Supplier<Boundaries> part : PARTS) {
            runAll(part);
        }
        String document = Files.readString(DOCUMENT);
        for (int promise = 0; promise <= PROMISES; promise++) {
            checkSentences(promise, sectionOf(document, promise));
        }
        System.out.println(SENTENCES.size() + " sentences, " + asked + " answers, " + wrong + " wrong");
        if (wrong != 0) System.exit(1);
    }

    private static void runAll(Supplier<Boundaries> part) throws IllegalAccessException {
        List<Method> methods = Stream.of(part.get().getClass().getDeclaredMethods())
            .filter(method -> method.isAnnotationPresent(Says.class))
            .sorted(Comparator.comparing(Method::getName)).toList();
        for (Method method : methods) {
            Says says = method.getAnnotation(Says.class);
            SENTENCES.add(says);
            Boundaries test = part.get();
            try {
                method.invoke(test);
            } catch (InvocationTargetException thrown) {
                test.wrong.add(method.getName() + " ended by " + thrown.getCause());
            }
            if (test.asked == 0) test.wrong.add(method.getName() + " asks nothing");
            asked += test.asked;
            for (String what : test.wrong) tellWrong(says.promise(), says.words(), what);
        }
    }

    private static void tellWrong(int promise, String words, String what) {
        wrong++;
        System.out.println("promise " + promise + " \"" + words + "\": " + what);
    }

    /** What the document says of a promise; 0: all that stands ahead of promise 1. */
    private static String sectionOf(String document, int promise) {
        int from = promise == 0 ? 0 : document.indexOf("## Promise " + promise + ":");
        int to = promise == PROMISES ? document.indexOf("## Not promised") : document.indexOf("## Promise " + (promise + 1) + ":");
        if (from < 0 || to < from) {
            tellWrong(promise, "", "the document has no such promise");
            return "";
        }
        return document.substring(from, to);
    }

    private static void checkSentences(int promise, String section) {
        boolean[] isTested = new boolean[section.length()];
        int sentences = 0;
        for (Says says : SENTENCES) {
            if (says.promise() != promise) continue;
            sentences++;
            int from = section.indexOf(says.words());
            if (from < 0) tellWrong(promise, says.words(), "the document doesn't say so");
            for (; from >= 0; from = section.indexOf(says.words(), from + 1)) {
                for (int k = 0; k < says.words().length(); k++) isTested[from + k] = true;
            }
        }
        if (sentences == 0) tellWrong(promise, "", "has no test of a boundary case");
        if (promise == 0) return;
        Matcher finding = Pattern.compile("\\b(BEYOND|FULL|KIND(?=:)|NONE|STATE|MISSING|SIZE|OVER)\\b").matcher(section);
        while (finding.find()) {
            if (!isTested[finding.start()]) tellWrong(promise, finding.group(), "stands in no sentence that has a test");
        }
    }
}
