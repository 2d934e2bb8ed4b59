import java.util.function.Consumer;
import java.util.function.Supplier;

/** Boundary sentences of some promises, and what their tests share. */
abstract class Sentences {
    static final int NONE = WokenBorder.NONE;
    static final int HIDDEN = WokenBorder.HIDDEN;
    static final int THROWS = Due.THROWS;
    static final int LEAST = Integer.MIN_VALUE;
    static final int MOST = Integer.MAX_VALUE;
    static final int CAR = 0;
    static final int LAW = 1;
    static final int LINES = 2;

    final Bounds b;

    Sentences(Bounds b) {
        this.b = b;
    }

    abstract void all();

    /** A CAR to which nothing has happened yet. */
    static Supplier<WokenBorder> car(String text) {
        return () -> Due.car(text);
    }

    /** That world, and then these calls. */
    @SafeVarargs
    static Supplier<WokenBorder> after(Supplier<WokenBorder> world, Consumer<WokenBorder>... calls) {
        return () -> {
            WokenBorder x = world.get();
            for (Consumer<WokenBorder> call : calls) {
                call.accept(x);
            }
            return x;
        };
    }

    static long bit(boolean answer) {
        return answer ? 1 : 0;
    }
}
