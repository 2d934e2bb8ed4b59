import java.util.function.Consumer;
import java.util.function.Supplier;
import java.util.function.ToLongFunction;

/** Boundary sentences of some promises, and what their tests share. */
abstract class Sentences {
    static final int NONE = WokenBorder.NONE;
    static final int HIDDEN = WokenBorder.HIDDEN;
    static final int THROWS = Due.THROWS;
    static final int LEAST = Integer.MIN_VALUE;
    static final int MOST = Integer.MAX_VALUE;
    static final int CAR = 0;
    static final int LAW = 1;
    static final int LINES = 2;

    /** Nobody of the four, and of the two, in Worlds.CAR. */
    static final int[] NO_SLEEPERS = {-1, 4, 9, LEAST, MOST};
    static final int[] NO_OFFICERS = {-1, 2, 4, LEAST, MOST};
    static final String NINE = "p;p;p;p;p;p;p;p;p;o";

    final Bounds b;

    Sentences(Bounds b) {
        this.b = b;
    }

    abstract void all();

    /** A call with one number. */
    interface Asked {
        int ask(WokenBorder x, int one);
    }

    /** Refused if there is no CAR, whatever else there is; answered so in a world with one. */
    final void withoutCar(String call, ToLongFunction<WokenBorder> ask, int refused, Supplier<WokenBorder> world,
            int want) {
        b.refused(call + " without a CAR", Worlds::shelf, ask, refused);
        b.refused(call + " of a new object", WokenBorder::new, ask, refused);
        b.answers(call + " with a CAR", world, ask, want);
    }

    /** A CAR to which nothing has happened yet. */
    static Supplier<WokenBorder> car(String text) {
        return () -> Due.car(text);
    }

    /** That world, and then these calls. */
    @SafeVarargs
    static Supplier<WokenBorder> after(Supplier<WokenBorder> world, Consumer<WokenBorder>... calls) {
        return () -> {
            WokenBorder x = world.get();
            for (Consumer<WokenBorder> call : calls) {
                call.accept(x);
            }
            return x;
        };
    }

    static long bit(boolean answer) {
        return answer ? 1 : 0;
    }
}
