import java.io.IOException;
import java.lang.reflect.InvocationTargetException;
import java.lang.reflect.Method;
import java.nio.file.Files;
import java.nio.file.Path;
import java.util.ArrayList;
import java.util.Arrays;
import java.util.Comparator;
import java.util.List;
import java.util.Set;
import java.util.TreeSet;

/**
 * Runs the tests of boundary cases, one method with Says for each sentence of the document that
 * names one, each on a new object. With the document's path it prints words that don't stand there.
 */
public final class EdgesTest {
    private static final Class<?>[] CLASSES = {NewObjectEdges.class, SeriesEdges.class, TextEdges.class,
        ChoiceEdges.class, GuessEdges.class, RowEdges.class, RefusedEdges.class};

    public static void main(String[] args) throws IOException {
        Set<String> places = new TreeSet<>();
        int tests = 0;
        for (Class<?> c : CLASSES) {
            for (Method test : testsOf(c)) {
                places.add(test.getAnnotation(Says.class).at());
                run(test);
                tests++;
            }
        }
        everyPlace(places);
        if (args.length > 0) {
            missing(Path.of(args[0]));
        }
        Check.ending("EdgesTest, " + tests + " sentences");
    }

    private static List<Method> testsOf(Class<?> c) {
        List<Method> tests = new ArrayList<>();
        for (Method m : c.getDeclaredMethods()) {
            if (m.isAnnotationPresent(Says.class)) {
                m.setAccessible(true);
                tests.add(m);
            }
        }
        tests.sort(Comparator.comparing(Method::getName));
        return tests;
    }

    private static void run(Method test) {
        Check.in(test.getDeclaringClass().getSimpleName() + "." + test.getName() + ": ");
        try {
            test.invoke(null, new HiddenRelations());
        } catch (InvocationTargetException e) {
            Check.holds("nothing is thrown, but " + e.getCause(), false);
        } catch (IllegalAccessException e) {
            Check.holds("it can be called", false);
        }
        Check.in("");
    }

    private static void everyPlace(Set<String> places) {
        for (int promise = 1; promise <= 35; promise++) {
            Check.holds("a boundary case of promise " + promise, places.contains("Promise " + promise));
        }
        for (int part = 1; part <= 4; part++) {
            Check.holds("a boundary case of the terms, part " + part, places.contains("Terms " + part));
        }
    }

    private static void missing(Path document) throws IOException {
        String all = flat(Files.readString(document));
        for (Class<?> c : CLASSES) {
            for (Method test : testsOf(c)) {
                String words = flat(test.getAnnotation(Says.class).words());
                if (!all.contains(words)) {
                    System.out.println(test.getName() + ": not in the document: " + words);
                }
            }
        }
    }

    private static String flat(String text) {
        return String.join(" ", Arrays.asList(text.trim().split("\\s+")));
    }
}
