import java.lang.reflect.InvocationTargetException;
import java.lang.reflect.Method;
import java.util.ArrayList;
import java.util.Comparator;
import java.util.List;
import java.util.NoSuchElementException;
import java.util.Random;
import java.util.Set;

/**
 * Any arguments in any state: nothing reaches the caller but the exception that the document names, thrown where
 * it names it; and a question changes nothing that an object shows.
 */
final class AnyArgumentsTest {
    private static final int RUNS = 600;
    private static final int CALLS = 250;
    private static final int WORLDS = 300;

    /** All else of the face may change something. */
    private static final Set<String> QUESTIONS = Set.of("fault", "rule", "sleeper", "officer", "log", "step", "run", "time",
            "order", "bound", "before", "words", "tonight", "fit", "best", "heads", "give", "between", "favour", "rests",
            "which", "woken", "tired", "beside", "slack", "longest", "count");

    /** What stands at, ahead of and behind the document's bounds, and at both ends of an int. */
    private static final int[] ODD = {Integer.MIN_VALUE, Integer.MIN_VALUE + 1, -1000001, -1000000, -999999, -3, -2, -1,
        0, 1, 2, 3, 4, 5, 6, 7, 8, 9, 10, 11, 13, 14, 15, 16, 17, 20, 21, 31, 32, 33, 39, 40, 41, 59, 60, 61, 99, 100, 239,
        240, 241, 511, 512, 513, 999, 1000, 1000000, Integer.MAX_VALUE - 1, Integer.MAX_VALUE};

    private static final Due DUE = new Due();
    private final Random random;
    private final List<Method> face = new ArrayList<>();
    private final List<Method> questions = new ArrayList<>();

    private AnyArgumentsTest(long seed) {
        random = new Random(seed * 0x9E3779B97F4A7C15L);
        for (Method method : WokenBorder.class.getMethods()) {
            if (method.getDeclaringClass() == WokenBorder.class) {
                face.add(method);
            }
        }
        // The order in which a class tells its methods is not fixed; a seed's run must be.
        face.sort(Comparator.comparing(Method::getName));
        for (Method method : face) {
            if (QUESTIONS.contains(method.getName())) {
                questions.add(method);
            }
        }
    }

    public static void main(String[] args) throws IllegalAccessException {
        DUE.due("questions of the face", new AnyArgumentsTest(0).questions.size(), QUESTIONS.size());
        for (int run = 0; run < RUNS; run++) {
            new AnyArgumentsTest(run).callAnything();
        }
        for (int run = 0; run < WORLDS; run++) {
            new AnyArgumentsTest(run).askTwins();
        }
        DUE.finish("AnyArgumentsTest");
    }

    private void callAnything() throws IllegalAccessException {
        WokenBorder x = begin(random);
        int calls = 0;
        while (calls < CALLS) {
            if (random.nextInt(25) == 0) {
                tellSomething(x);
            }
            // Now and then one call many times, so that what has a limit gets full.
            Method method = face.get(random.nextInt(face.size()));
            int times = random.nextInt(20) == 0 ? 30 : 1;
            for (int i = 0; i < times; i++) {
                call(x, method);
            }
            calls += times;
        }
    }

    /** One of two twins is asked; both must show the same behind it. */
    private void askTwins() throws IllegalAccessException {
        long seed = random.nextLong();
        WokenBorder asked = lived(new Random(seed));
        WokenBorder left = lived(new Random(seed));
        for (int i = 0; i < 60; i++) {
            call(asked, questions.get(random.nextInt(questions.size())));
        }
        String difference = Photo.difference(new Photo(asked), new Photo(left));
        DUE.due("questions changed " + difference, difference.isEmpty(), true);
    }

    private static WokenBorder begin(Random random) {
        return random.nextInt(10) == 0 ? new WokenBorder() : Due.car(TextMaker.car(random, random.nextBoolean()));
    }

    private static WokenBorder lived(Random random) {
        WokenBorder x = random.nextInt(10) == 0 ? new WokenBorder() : Due.car(TextMaker.car(random, true));
        Due.tell(x, 1, TextMaker.law(random));
        // Few steps: a Photo asks more for each act, and an object serves 512 calls in all.
        Due.tell(x, 2, "w0;b0;l0");
        x.law(random.nextInt(2) - 1);
        x.hear(random.nextBoolean(), random.nextInt(20));
        x.lookAt(random.nextInt(3), random.nextInt(3) > 0);
        x.say(random.nextInt(3), random.nextInt(3));
        x.perform(0);
        x.image();
        x.nights(1 + random.nextInt(2), random.nextLong());
        x.swap(0, 1);
        x.wake(random.nextInt(4));
        Due.feed(x, "p;o");
        return x;
    }

    private void tellSomething(WokenBorder x) {
        switch (random.nextInt(4)) {
            case 0:
                Due.tell(x, 0, TextMaker.car(random, random.nextBoolean()));
                break;
            case 1:
                Due.tell(x, 1, TextMaker.law(random));
                break;
            case 2:
                Due.tell(x, 2, TextMaker.lines(random));
                break;
            default:
                Due.feed(x, TextMaker.spoilt(random));
        }
    }

    private void call(WokenBorder x, Method method) throws IllegalAccessException {
        Object[] arguments = new Object[method.getParameterCount()];
        for (int i = 0; i < arguments.length; i++) {
            arguments[i] = anything(method.getParameterTypes()[i]);
        }
        String thrown = "";
        try {
            method.invoke(x, arguments);
        } catch (InvocationTargetException e) {
            thrown = e.getCause().getClass().getName();
        }
        boolean must = method.getName().equals("sleeper") && nothingSuch(x, (int) arguments[0], (int) arguments[1]);
        String due = must ? NoSuchElementException.class.getName() : "";
        DUE.due(method.getName() + List.of(arguments) + " threw '" + thrown + "'", thrown.equals(due), true);
    }

    private static boolean nothingSuch(WokenBorder x, int sleeper, int what) {
        return sleeper < 0 || sleeper >= x.count(0) || what < 0 || what > 10;
    }

    private Object anything(Class<?> type) {
        if (type == boolean.class) {
            return random.nextBoolean();
        }
        if (type == long.class) {
            return random.nextInt(3) == 0 ? (long) odd() : random.nextInt(3) == 0 ? Long.MIN_VALUE : random.nextLong();
        }
        return odd();
    }

    private int odd() {
        int dice = random.nextInt(10);
        if (dice == 0) {
            return random.nextInt();
        }
        return dice < 5 ? random.nextInt(6) - 1 : ODD[random.nextInt(ODD.length)];
    }
}
