import java.util.function.Supplier;

/** Boundary sentences about NIGHTS, UNDO, the LOG and LINES: promises 17 to 22. */
final class BoundNights extends Sentences {
    BoundNights(Bounds b) {
        super(b);
    }

    @Override
    void all() {
        nights();
        promises17To22();
        linesAsActs();
    }

    private void nights() {
        b.terms(17, "NIGHTS by a seed: n (1 .. 20)", this::oneToTwentyNights);
        b.terms(17, "an OFFICER by a draw of all WEIGHTS together (by numbers; all 0: OFFICER 0, no draw)",
                this::officersByDraw);
        b.terms(17, "then each SLEEPER who is awake, by numbers: a draw of 100 below DROWSY (0 .. 99; 50 at first): it "
                + "LIES down.", this::drawsBelowDrowsy);
        b.terms(17, "x, at first the seed, becomes x times 6364136223846793005 and 1442695040888963407 (64 bits, going "
                + "round); a draw of m: (x shifted right by 33, without sign) modulo m.", this::goingRound);
        b.terms(18, "Each BORDER with what is behind it is one ACT.", this::nightIsOneAct);
    }

    private void oneToTwentyNights() {
        b.answers("one", car("p;o"), x -> x.nights(1, 7), 1);
        b.answers("twenty", car("p;o"), x -> x.nights(20, 7), 20);
        b.refused("none", Worlds::lived, x -> x.nights(0, 7), NONE);
        b.refused("twenty-one", Worlds::lived, x -> x.nights(21, 7), NONE);
    }

    private void officersByDraw() {
        int[] officers = {0, 0, 1, 1, 1, 3, 3, 3, 3};
        for (int drawn = 0; drawn < 9; drawn++) {
            long seed = Draws.seedFor(new int[] {9}, new int[] {drawn});
            b.answers("drawn " + drawn, after(car("p;ow2;ow3;ow0;ow4"), x -> x.nights(1, seed)), x -> x.log(0, 0),
                    officers[drawn]);
        }
        for (long seed = 0; seed < 9; seed++) {
            long by = seed;
            b.answers("WEIGHT 0 first", after(car("p;ow0;ow1"), x -> x.nights(1, by)), x -> x.log(0, 0), 1);
            b.answers("WEIGHT 0 last", after(car("p;ow9;ow0"), x -> x.nights(1, by)), x -> x.log(0, 0), 0);
            b.answers("all 0", after(car("p;ow0;ow0;ow0;ow0"), x -> x.nights(1, by)), x -> x.log(0, 0), 0);
        }
        int[] hundred = {100, 100};
        long lies = Draws.seedFor(hundred, new int[] {49, 50});
        long stays = Draws.seedFor(hundred, new int[] {50, 49});
        b.answers("all 0, the first draw is the SLEEPER's", after(() -> awake("p;ow0"), x -> x.nights(1, lies)),
                x -> x.count(7), 1);
        b.answers("all 0, no draw ahead", after(() -> awake("p;ow0"), x -> x.nights(1, stays)), x -> x.count(7), 0);
        b.answers("one OFFICER, a draw ahead", after(() -> awake("p;ow1"), x -> x.nights(1, lies)), x -> x.count(7), 0);
        b.answers("one OFFICER, a draw ahead", after(() -> awake("p;ow1"), x -> x.nights(1, stays)), x -> x.count(7),
                1);
    }

    private static WokenBorder awake(String car) {
        WokenBorder x = Due.car(car);
        x.wake(0);
        return x;
    }

    private void drawsBelowDrowsy() {
        int[][] drawnDrowsyLies = {{0, 0, 0}, {0, 1, 1}, {1, 1, 0}, {49, 50, 1}, {50, 50, 0}, {50, 51, 1}, {98, 99, 1},
            {99, 99, 0}, {98, 98, 0}};
        for (int[] row : drawnDrowsyLies) {
            long seed = Draws.seedFor(new int[] {1, 100}, new int[] {0, row[0]});
            b.answers("drawn " + row[0] + ", DROWSY " + row[1],
                    after(() -> drowsy(awake("p;o"), row[1]), x -> x.nights(1, seed)), x -> x.count(7), row[2]);
        }
        long at = Draws.seedFor(new int[] {1, 100}, new int[] {0, 50});
        long below = Draws.seedFor(new int[] {1, 100}, new int[] {0, 49});
        b.answers("50 at first, drawn 50", after(() -> awake("p;o"), x -> x.nights(1, at)), x -> x.count(7), 0);
        b.answers("50 at first, drawn 49", after(() -> awake("p;o"), x -> x.nights(1, below)), x -> x.count(7), 1);
        long first = Draws.seedFor(new int[] {1, 100, 100}, new int[] {0, 49, 50});
        b.answers("by numbers: 0 LIES down", after(() -> allAwake("p;pc1;o"), x -> x.nights(1, first)),
                BoundNights::asleep, 10);
        b.answers("no draw for one who is ASLEEP",
                after(() -> allAwake("p;p;pc1;o"), x -> x.lie(0), x -> x.nights(1, first)), BoundNights::asleep, 110);
    }

    private static WokenBorder drowsy(WokenBorder x, int v) {
        x.drowsy(v);
        return x;
    }

    private static WokenBorder allAwake(String car) {
        WokenBorder x = Due.car(car);
        for (int who = 0; who < 9; who++) {
            x.wake(who);
        }
        return x;
    }

    /** Who is ASLEEP, as digits, the first the highest. */
    private static long asleep(WokenBorder x) {
        long digits = 0;
        for (int who = 0; who < x.count(0); who++) {
            digits = 10 * digits + x.sleeper(who, 9);
        }
        return digits;
    }

    private void goingRound() {
        long[] seeds = {0, 1, -1, Long.MAX_VALUE, Long.MIN_VALUE, 1L << 32, -(1L << 33), 6364136223846793005L};
        for (long seed : seeds) {
            WokenBorder x = Due.car("p;ow2;ow3f1;ow0;ow4");
            x.nights(20, seed);
            Draws draws = new Draws(seed);
            boolean awake = false;
            for (int night = 19; night >= 0; night--) {
                int drawn = draws.draw(9);
                int officer = drawn < 2 ? 0 : drawn < 5 ? 1 : 3;
                b.due("seed " + seed + ", OFFICER of night " + (20 - night), x.log(night, 0), officer);
                awake = awake || officer == 1;
                if (awake && draws.draw(100) < 50) {
                    awake = false;
                }
            }
            b.due("seed " + seed + ", ASLEEP at last", x.count(7), awake ? 0 : 1);
        }
    }

    private void nightIsOneAct() {
        long lies = Draws.seedFor(new int[] {1, 100}, new int[] {0, 0});
        Supplier<WokenBorder> world = car("p;of1");
        b.answers("one night, one ACT", after(world, x -> x.nights(1, lies)), x -> x.count(12), 1);
        b.answers("it was WOKEN and LIES down", after(world, x -> x.nights(1, lies)), x -> x.woken(0) * 10 + x.count(7),
                11);
        b.answers("both UNDONE at once", after(world, x -> x.nights(1, lies)),
                x -> x.undo() + x.woken(0) * 10 + x.count(7), 1);
        b.answers("twenty ACTS", after(world, x -> x.nights(20, 7)), x -> x.count(12), 20);
        b.answers("forty at most", after(world, x -> x.nights(20, 7), x -> x.nights(20, 8), x -> x.nights(1, 9)),
                x -> x.count(12), 40);
        b.answers("all of forty-one UNDONE but one", () -> Worlds.undone(fortyOneNights(), 40), x -> x.count(11), 1);
    }

    private static WokenBorder fortyOneNights() {
        WokenBorder x = Due.car("p;of1");
        x.nights(1, 5);
        x.nights(20, 6);
        x.nights(20, 7);
        return x;
    }

    private void promises17To22() {
        String nights = "NONE: no CAR, out of bounds.";
        b.promise(17, "NIGHTS: how many BORDERS the LOG has.", this::nightsFillTheLog);
        b.refusal(17, nights, "no CAR", this::nightsWithoutCar);
        b.refusal(17, nights, "out of bounds", this::nightsOutOfBounds);
        b.promise(18, "The latest ACT is UNDONE: how many still can be.", this::undoneOneByOne);
        b.refusal(18, "NONE: none.", "none", this::noActToUndo);
        b.promise(19, "LOG, the latest (i 0), the one ahead of it (1) ..: 0 OFFICER, 1 TENS, 2 LATE, 3 SLEEP lost.",
                this::latestFirst);
        b.refusal(19, "NONE: no such ones.", "no such ones", this::noSuchLogEntry);
        b.promise(20, "A STEP of LINES: 0 what (0 m, 1 y, 2 w, 3 l, 4 x, 5 b)", this::kindsOfSteps);
        b.promise(20, "1 the first digit, 2 the second (NONE).", this::secondDigitOrNone);
        b.refusal(20, "HIDDEN: no such ones.", "no such ones", this::noSuchStep);
    }

    private void nightsFillTheLog() {
        b.answers("60", () -> nightsOf(2), x -> x.nights(20, 3), 60);
        b.answers("no more than 60", () -> nightsOf(3), x -> x.nights(1, 3), 60);
        b.answers("BORDERS by hand, too", Worlds::lived, x -> x.nights(2, 3), 3);
    }

    private static WokenBorder nightsOf(int twenties) {
        WokenBorder x = Due.car("p;o");
        for (int i = 0; i < twenties; i++) {
            x.nights(20, i);
        }
        return x;
    }

    private void nightsWithoutCar() {
        b.refused("nights(1, 1) with LAWS", Worlds::shelf, x -> x.nights(1, 1), NONE);
        b.refused("nights(20, 1) of a new object", WokenBorder::new, x -> x.nights(20, 1), NONE);
        b.answers("nights(1, 1) with a CAR", car("p;o"), x -> x.nights(1, 1), 1);
    }

    private void nightsOutOfBounds() {
        for (int n : new int[] {-1, 0, 21, LEAST, MOST}) {
            b.refused("nights(" + n + ", 1)", Worlds::lived, x -> x.nights(n, 1), NONE);
        }
        b.answers("nights(1, 1)", Worlds::lived, x -> x.nights(1, 1), 2);
        b.answers("nights(20, 1)", Worlds::lived, x -> x.nights(20, 1), 21);
    }

    private void undoneOneByOne() {
        for (int i = 0; i < 6; i++) {
            int ahead = i;
            b.answers("behind " + i + " of six", () -> Worlds.undone(Worlds.lived(), ahead), WokenBorder::undo, 5 - i);
        }
        b.answers("an ACT behind one UNDONE", () -> Worlds.undone(Worlds.lived(), 1), x -> x.swap(0, 1), 6);
    }

    private void noActToUndo() {
        b.refused("of a new object", WokenBorder::new, WokenBorder::undo, NONE);
        b.refused("without a CAR", Worlds::shelf, WokenBorder::undo, NONE);
        b.refused("of a new CAR", car(Worlds.CAR), WokenBorder::undo, NONE);
        b.refused("all UNDONE", () -> Worlds.undone(Worlds.lived(), 6), WokenBorder::undo, NONE);
        b.refused("behind BACK", () -> broughtBack(), WokenBorder::undo, NONE);
        b.answers("an ACT behind BACK", after(() -> broughtBack(), x -> x.wake(2)), WokenBorder::undo, 0);
    }

    private static WokenBorder broughtBack() {
        WokenBorder x = Worlds.lived();
        x.back();
        return x;
    }

    private void latestFirst() {
        Supplier<WokenBorder> world = after(car("sa1;pt7;pt1n9;o;of1t0"), x -> x.border(0), x -> x.border(1));
        int[][] want = {{1, 14, 1, 8 + 14}, {0, 8, 1, 0}};
        for (int i = 0; i < 2; i++) {
            for (int k = 0; k < 4; k++) {
                int at = i;
                int what = k;
                b.refused("log(" + i + ", " + what + ")", world, x -> x.log(at, what), want[i][k]);
            }
        }
        b.answers("the only one", after(world, WokenBorder::undo), x -> x.log(0, 1), 8);
    }

    private void noSuchLogEntry() {
        b.answers("log(0, 0)", Worlds::lived, x -> x.log(0, 0), 1);
        b.answers("log(0, 3)", Worlds::lived, x -> bit(x.log(0, 3) > 0), 1);
        for (int i : new int[] {-1, 1, 59, 60, LEAST, MOST}) {
            b.refused("log(" + i + ", 0)", Worlds::lived, x -> x.log(i, 0), NONE);
        }
        for (int what : new int[] {-1, 4, LEAST, MOST}) {
            b.refused("log(0, " + what + ")", Worlds::lived, x -> x.log(0, what), NONE);
        }
        b.refused("log(0, 0) of a new CAR", car("p;o"), x -> x.log(0, 0), NONE);
        b.refused("log(0, 0) without a CAR", Worlds::shelf, x -> x.log(0, 0), NONE);
        b.answers("log(59, 0) of 60", () -> nightsOf(3), x -> x.log(59, 0), 0);
        b.refused("log(60, 0) of 60", () -> nightsOf(3), x -> x.log(60, 0), NONE);
    }

    private void kindsOfSteps() {
        for (int i = 0; i <= 5; i++) {
            int at = i;
            b.answers("STEP " + i, () -> withLines("m00;y00;w0;l0;x00;b0"), x -> x.step(0, at, 0), i);
        }
    }

    private void secondDigitOrNone() {
        String[] two = {"m90", "y92", "x99"};
        int[] second = {0, 2, 9};
        for (int k = 0; k < 3; k++) {
            String lines = two[k];
            b.answers("second of " + lines, () -> withLines(lines), x -> x.step(0, 0, 1) * 10 + x.step(0, 0, 2),
                    90 + second[k]);
        }
        for (String lines : new String[] {"w9", "l9", "b9"}) {
            b.answers("second of " + lines, () -> withLines(lines), x -> x.step(0, 0, 1) * 10 + x.step(0, 0, 2), 89);
        }
    }

    private static WokenBorder withLines(String lines) {
        WokenBorder x = new WokenBorder();
        Due.tell(x, LINES, lines);
        return x;
    }

    private void noSuchStep() {
        b.answers("step(0, 0, 0)", Worlds::lived, x -> x.step(0, 0, 0), 2);
        b.refused("step(0, 2, 2)", Worlds::lived, x -> x.step(0, 2, 2), NONE);
        for (int one : new int[] {-1, LEAST, MOST}) {
            b.refused("step(" + one + ", 0, 0)", Worlds::lived, x -> x.step(one, 0, 0), HIDDEN);
            b.refused("step(0, " + one + ", 0)", Worlds::lived, x -> x.step(0, one, 0), HIDDEN);
            b.refused("step(0, 0, " + one + ")", Worlds::lived, x -> x.step(0, 0, one), HIDDEN);
        }
        b.refused("step(1, 0, 0) of one", Worlds::lived, x -> x.step(1, 0, 0), HIDDEN);
        b.refused("step(0, 3, 0) of three", Worlds::lived, x -> x.step(0, 3, 0), HIDDEN);
        b.refused("step(0, 0, 3)", Worlds::lived, x -> x.step(0, 0, 3), HIDDEN);
        b.refused("step(0, 0, 0) of none", WokenBorder::new, x -> x.step(0, 0, 0), HIDDEN);
        b.answers("the 16th", () -> withLines("b9;".repeat(15) + "b8"), x -> x.step(0, 15, 1), 8);
        b.refused("the 17th", () -> withLines("b9;".repeat(15) + "b8"), x -> x.step(0, 16, 1), HIDDEN);
        b.refused("a STEP of those that were there ahead", () -> shorter(), x -> x.step(1, 1, 0), HIDDEN);
    }

    /** Longer LINES, and then shorter ones. */
    private static WokenBorder shorter() {
        WokenBorder x = withLines("b1;b2;b3");
        Due.tell(x, LINES, "w1");
        return x;
    }

    private void linesAsActs() {
        b.terms(21, "RUN of LINES (apart): behind how many STEPS the first is that can't be; SLEEP lost by all of "
                + "them.", this::runUpToTheFirst);
        b.terms(22, "DO: its STEPS as ACTS, up to there.", this::performUpToThere);
        b.promise(21, "RUN: behind how many (0; NONE: all can be), SLEEP lost (1).", this::runOfAll);
        String run = "HIDDEN: no such ones, no CAR.";
        b.refusal(21, run, "no such ones", this::runOfNoLines);
        b.refusal(21, run, "no CAR", () -> withoutCar("run(0, 0)", x -> x.run(0, 0), HIDDEN, shelfAndCar(), NONE));
        String perform = "NONE: no such LINES, no CAR.";
        b.refusal(22, perform, "no such LINES", this::performOfNoLines);
        b.refusal(22, perform, "no CAR", () -> withoutCar("perform(0)", x -> x.perform(0), NONE, shelfAndCar(), 3));
    }

    private static Supplier<WokenBorder> shelfAndCar() {
        return after(Worlds::shelf, x -> Due.tell(x, CAR, Worlds.CAR));
    }

    private static WokenBorder lines(String lines) {
        WokenBorder x = Due.car("pn0;pn9;of1t0");
        Due.tell(x, LINES, lines);
        return x;
    }

    private void runUpToTheFirst() {
        String[] lines = {"l0", "w0;w0", "w0;b0;l0;w1", "b0;b1", "l0;w0;w1", "w0;w0;w1"};
        int[] behind = {0, 1, 3, 1, 0, 1};
        int[] lost = {0, 5, 19, 19, 0, 5};
        for (int k = 0; k < lines.length; k++) {
            String told = lines[k];
            b.refused("run(0, 0) of " + told, () -> lines(told), x -> x.run(0, 0), behind[k]);
            b.refused("run(0, 1) of " + told, () -> lines(told), x -> x.run(0, 1), lost[k]);
        }
        b.refused("SLEEP lost ahead of it is none of its", () -> Worlds.livedWith("w2"), x -> x.run(1, 1), 4);
    }

    private void performUpToThere() {
        b.refused("the first can't be", () -> lines("l0;w0;w1"), x -> x.perform(0), 0);
        b.answers("the second can't be", () -> lines("w0;w0;w1"),
                x -> x.perform(0) * 100 + x.count(12) * 10 + x.count(7), 111);
        b.answers("the last can't be", () -> lines("w0;w1;w1"), x -> x.perform(0) * 100 + x.count(12) * 10 + x.count(7),
                220);
        b.answers("all can be", () -> lines("w0;w1;l1"), x -> x.perform(0) * 100 + x.count(12) * 10 + x.count(7), 331);
        b.answers("sixteen", () -> lines("x01;".repeat(15) + "x01"), x -> x.perform(0) * 100 + x.count(12), 1616);
        b.answers("each is UNDONE alone", after(() -> lines("w0;w1"), x -> x.perform(0)),
                x -> x.undo() * 10 + x.count(7), 11);
    }

    private void runOfAll() {
        b.refused("all can be", () -> lines("w0;w1;l1"), x -> x.run(0, 0), NONE);
        b.refused("SLEEP by all", () -> lines("w0;w1;l1"), x -> x.run(0, 1), 19);
        b.refused("all sixteen can be", () -> lines("x01;".repeat(15) + "x01"), x -> x.run(0, 0), NONE);
        b.refused("the 16th can't be", () -> lines("x01;".repeat(15) + "x00"), x -> x.run(0, 0), 15);
        b.refused("the first can't be", () -> lines("x00"), x -> x.run(0, 0), 0);
    }

    private void runOfNoLines() {
        for (int one : new int[] {-1, LEAST, MOST}) {
            b.refused("run(" + one + ", 0)", Worlds::lived, x -> x.run(one, 0), HIDDEN);
            b.refused("run(0, " + one + ")", Worlds::lived, x -> x.run(0, one), HIDDEN);
        }
        b.refused("run(1, 0) of one", Worlds::lived, x -> x.run(1, 0), HIDDEN);
        b.refused("run(0, 2)", Worlds::lived, x -> x.run(0, 2), HIDDEN);
        b.refused("run(0, 0) of none", car("p;o"), x -> x.run(0, 0), HIDDEN);
        b.answers("run(0, 0)", Worlds::lived, x -> x.run(0, 0), 0);
        b.answers("run(0, 1)", Worlds::lived, x -> x.run(0, 1), 0);
    }

    private void performOfNoLines() {
        for (int one : new int[] {-1, 1, 4, LEAST, MOST}) {
            b.refused("perform(" + one + ") of one", Worlds::lived, x -> x.perform(one), NONE);
        }
        b.refused("perform(0) of none", car("p;o"), x -> x.perform(0), NONE);
        b.answers("perform(0)", () -> lines("w0"), x -> x.perform(0), 1);
    }
}
