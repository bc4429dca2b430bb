import java.lang.reflect.InvocationTargetException;
import java.lang.reflect.Method;
import java.util.ArrayList;
import java.util.Arrays;
import java.util.Comparator;
import java.util.List;
import java.util.Random;

/**
 * Runs of 512 calls by chance (always the same chance), on the class and on
 * PlainLand: all answers are alike, whatever the arguments, and none throws.
 */
public final class ModelTest {
    private static final int RUNS = 400;
    private static final int CALLS = 512;
    private static final String[] TEXTS = {
        "range", "hill", "peak", "glacier", "moor", "twin", "pass", "free", "village", "order", "at", "haste", "less",
        ";", ";", ";", " ", " ", " ", "0", "1", "2", "5", "9", "12", "23", "24", "10", "x", "?", "\t", "rang", "000", "999"};

    private final Random chance;
    private final MountainFile real = new MountainFile();
    private final PlainLand plain = new PlainLand();
    private final List<String> told = new ArrayList<>();
    private boolean same = true;

    private ModelTest(long seed) {
        chance = new Random(seed);
    }

    public static void main(String[] args) throws ReflectiveOperationException {
        int runs = args.length > 0 ? Integer.parseInt(args[0]) : RUNS;
        Check check = new Check();
        for (int seed = 0; seed < runs; seed++) {
            ModelTest test = new ModelTest(seed);
            check.holds("run " + seed + " is as the document says", test.run());
        }
        check.end();
    }

    private boolean run() throws ReflectiveOperationException {
        Method[] face = MountainFile.class.getDeclaredMethods();
        List<Method> calls = new ArrayList<>();
        for (Method m : face) {
            if (java.lang.reflect.Modifier.isPublic(m.getModifiers())) {
                calls.add(m);
            }
        }
        // The machine tells methods in any order; the runs are to be the same.
        calls.sort(Comparator.comparing(Method::getName));
        int wild = chance.nextInt(3);
        furnish();
        while (same && told.size() < CALLS) {
            int dice = chance.nextInt(20);
            if (dice == 0) {
                feedText();
            } else if (dice == 1) {
                furnish();
            } else {
                Method m = calls.get(chance.nextInt(calls.size()));
                call(m.getName(), arguments(m, wild));
            }
        }
        return same;
    }

    /** Most runs would stay empty, or be full and stand still, by chance alone. */
    private void furnish() throws ReflectiveOperationException {
        for (int r = 7; r >= 0; r--) {
            if (chance.nextInt(3) == 0) {
                call("level", r);
            }
        }
        int ranges = chance.nextInt(6);
        for (int i = 0; i < ranges; i++) {
            call("range", chance.nextInt(6), chance.nextInt(24));
        }
        if (chance.nextBoolean()) {
            for (int c = 0; c < 24; c++) {
                call("pass", c, 0, 0);
            }
        }
        int passes = chance.nextInt(5);
        for (int i = 0; i < passes; i++) {
            int period = 2 + chance.nextInt(8);
            call("pass", chance.nextInt(24), period, chance.nextInt(6) == 0 ? 0 : chance.nextInt(period) + 1);
        }
        if (chance.nextInt(6) == 0) {
            call("village", chance.nextInt(24));
        }
        call("order", chance.nextInt(4), chance.nextInt(19) - 9);
        call("order", chance.nextInt(4), chance.nextInt(19) - 9);
        call("set", chance.nextInt(8), 2, chance.nextInt(10));
        call("sheet", chance.nextInt(4), new int[] {8, 16, 64}[chance.nextInt(3)], chance.nextInt(41));
    }

    private Object[] arguments(Method m, int wild) {
        Class<?>[] types = m.getParameterTypes();
        Object[] arguments = new Object[types.length];
        for (int i = 0; i < types.length; i++) {
            int number = number(wild);
            if (types[i] == long.class) {
                arguments[i] = chance.nextInt(3) == 0 ? chance.nextLong() : (long) number;
            } else {
                arguments[i] = number;
            }
        }
        return arguments;
    }

    private int number(int wild) {
        int dice = chance.nextInt(40);
        if (dice < wild) {
            return new int[] {Integer.MIN_VALUE, Integer.MAX_VALUE, chance.nextInt()}[chance.nextInt(3)];
        }
        if (dice < 6) {
            return new int[] {-10, -9, -2, -1, 9, 10, 23, 24, 39, 40, 41, 64, 79, 80, 81, 999, 1000, 8, 16}[chance.nextInt(19)];
        }
        return chance.nextInt(new int[] {2, 4, 8, 8, 24, 41}[chance.nextInt(6)]);
    }

    /** An item or more, now and then with a token that is out of place. */
    private void feedText() throws ReflectiveOperationException {
        StringBuilder text = new StringBuilder();
        int items = 1 + chance.nextInt(5);
        for (int i = 0; i < items; i++) {
            text.append(i == 0 ? "" : ";").append(item());
        }
        if (chance.nextInt(3) == 0) {
            text.insert(chance.nextInt(text.length() + 1), TEXTS[chance.nextInt(TEXTS.length)]);
        }
        if (chance.nextInt(6) == 0) {
            text.setLength(chance.nextInt(text.length() + 1));
        }
        if (chance.nextInt(4) != 0) {
            call("wipe");
        }
        for (int i = 0; i < text.length(); i += 4) {
            int bytes = 0;
            int n = Math.min(4, text.length() - i);
            for (int k = 0; k < n; k++) {
                bytes = bytes << 8 | text.charAt(i + k);
            }
            call("feed", bytes, n);
        }
        call("land");
    }

    private String item() {
        int cell = chance.nextInt(26);
        switch (chance.nextInt(6)) {
            case 0:
                return "village " + cell;
            case 1:
                return "free " + cell;
            case 2:
                return "pass " + cell + " " + chance.nextInt(11) + " " + chance.nextInt(6);
            case 3:
                return "order " + chance.nextInt(5) + (chance.nextBoolean() ? " " : " less ") + chance.nextInt(11);
            case 4:
                return TEXTS[chance.nextInt(6)] + " at " + cell;
            default:
                return TEXTS[chance.nextInt(6)] + " at " + cell + " haste " + chance.nextInt(11);
        }
    }

    private void call(String name, Object... arguments) throws ReflectiveOperationException {
        if (!same || told.size() >= CALLS) {
            return;
        }
        long got;
        try {
            got = answer(real, name, arguments);
        } catch (InvocationTargetException thrown) {
            System.out.println(told + "\n" + name + Arrays.toString(arguments) + " threw " + thrown.getCause());
            same = false;
            return;
        }
        long want = answer(plain, name, arguments);
        told.add(name + Arrays.toString(arguments) + "=" + got);
        if (got != want) {
            System.out.println(told + " due is " + want);
            same = false;
        }
    }

    private static long answer(Object on, String name, Object[] arguments) throws ReflectiveOperationException {
        for (Method m : on.getClass().getDeclaredMethods()) {
            if (m.getName().equals(name) && fits(m.getParameterTypes(), arguments)) {
                m.setAccessible(true);
                return ((Number) m.invoke(on, arguments)).longValue();
            }
        }
        throw new NoSuchMethodException(name);
    }

    private static boolean fits(Class<?>[] types, Object[] arguments) {
        boolean fits = types.length == arguments.length;
        for (int i = 0; fits && i < types.length; i++) {
            fits = types[i] == int.class && arguments[i] instanceof Integer
                || types[i] == long.class && arguments[i] instanceof Long;
        }
        return fits;
    }
}
