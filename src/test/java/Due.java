import java.util.NoSuchElementException;

/** What the tests share: a tally of wrong answers, and texts fed as bytes. */
final class Due {
    static final int THROWS = -7777777;
    private int wrong;
    private int asked;

    void due(String call, long got, long want) {
        asked++;
        if (got != want) {
            wrong++;
            System.out.println(call + " answered " + got + ", due is " + want);
        }
    }

    void due(String call, boolean got, boolean want) {
        due(call, got ? 1 : 0, want ? 1 : 0);
    }

    int asked() {
        return asked;
    }

    void finish(String name) {
        System.out.println(name + ": " + asked + " answers, " + wrong + " wrong");
        if (wrong != 0) {
            System.exit(1);
        }
    }

    /** The TAPE becomes this text: how many bytes it has then. */
    static int feed(WokenBorder x, String text) {
        x.end(0);
        int has = 0;
        for (int from = 0; from < text.length(); from += 20) {
            int[] v = new int[5];
            for (int i = 0; i < 20; i++) {
                v[i / 4] = v[i / 4] << 8 | (from + i < text.length() ? text.charAt(from + i) : 0);
            }
            has = x.feed(v[0], v[1], v[2], v[3], v[4]);
        }
        return has;
    }

    static int tell(WokenBorder x, int sort, String text) {
        feed(x, text);
        return x.text(sort);
    }

    static WokenBorder car(String text) {
        WokenBorder x = new WokenBorder();
        if (tell(x, 0, text) < 1) {
            throw new IllegalStateException("no such car: " + text);
        }
        return x;
    }

    /** THROWS stands for the NoSuchElementException that the document names. */
    static int sleeper(WokenBorder x, int sleeper, int what) {
        try {
            return x.sleeper(sleeper, what);
        } catch (NoSuchElementException none) {
            return THROWS;
        }
    }

    /** The DRAWER as digits, its first place the highest. */
    static int drawer(WokenBorder x) {
        int digits = 0;
        for (int place = 0; place < x.count(6); place++) {
            for (int who = 0; who < x.count(0); who++) {
                if (sleeper(x, who, 7) == place) {
                    digits = 10 * digits + who;
                }
            }
        }
        return digits;
    }
}
