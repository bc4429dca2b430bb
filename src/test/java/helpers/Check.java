import java.lang.reflect.InvocationTargetException;
import java.lang.reflect.Method;
import java.util.Arrays;
import java.util.Comparator;

/** Counts the answers of one test that are not the ones that are due. */
final class Check {
    static final int BEYOND = -1000000001;
    static final int FULL = -1000000002;
    static final int KIND = -1000000003;
    static final int NONE = -1000000004;
    static final int STATE = -1000000005;
    static final int MISSING = -1000000006;
    static final int SIZE = -1000000007;

    private String part = "";
    private int asked;
    private int wrong;

    void due(String call, long got, long want) {
        asked++;
        if (got != want) {
            wrong++;
            System.out.println(part + call + " answered " + got + ", due is " + want);
        }
    }

    void holds(String what, boolean so) {
        asked++;
        if (!so) {
            wrong++;
            System.out.println(part + "does not hold: " + what);
        }
    }

    /**
     * Runs all methods whose names begin with promise, so that none is written
     * and then forgotten. One that asks for nothing counts as wrong.
     */
    void runPromises(Class<?> test) throws ReflectiveOperationException {
        Method[] methods = test.getDeclaredMethods();
        Arrays.sort(methods, Comparator.comparing(Method::getName));
        for (Method method : methods) {
            if (method.getName().startsWith("promise")) {
                part = method.getName() + ": ";
                int before = asked;
                runOne(method);
                holds("it asks for something", asked > before);
            }
        }
        part = "";
    }

    private void runOne(Method method) throws ReflectiveOperationException {
        method.setAccessible(true);
        try {
            method.invoke(null);
        } catch (InvocationTargetException thrown) {
            holds("nothing is thrown: " + thrown.getCause(), false);
        }
    }

    /** Ends the test's program: with exit code 1 if an answer was wrong. */
    void end() {
        System.out.println(asked + " answers asked for, " + wrong + " wrong");
        if (asked == 0 || wrong != 0) {
            System.exit(1);
        }
    }

    /** Feeds a text byte by byte; answers how many bytes the tape has. */
    static int feedText(MountainFile x, String text) {
        int has = 0;
        for (int i = 0; i < text.length(); i++) {
            has = x.feed(text.charAt(i), 1);
        }
        return has;
    }

    static int landOf(MountainFile x, String text) {
        feedText(x, text);
        return x.land();
    }

    /** A new object in which so many seasons went by. */
    static MountainFile inSeason(int season) {
        MountainFile x = new MountainFile();
        goTo(x, season);
        return x;
    }

    /** Seasons go by until it is that one. */
    static void goTo(MountainFile x, int season) {
        int left = season - x.now(0);
        while (left > 0) {
            int n = Math.min(80, left);
            x.seasons(n);
            left -= n;
        }
    }
}
