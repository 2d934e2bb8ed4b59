import java.util.function.Supplier;

/** Boundary sentences about plans and guesses: the first part of ==== 3 of the Terms, and promises 23 to 33. */
final class BoundPlans extends Sentences {
    private static final int[] NO_WHATS = {-1, 2, LEAST, MOST};
    /** Two who LACK something and one who does not, each ASLEEP. */
    private static final String PLAIN = "sa60;pt1l1;pt2l2;pt3;o;of1";

    BoundPlans(Bounds b) {
        super(b);
    }

    @Override
    void all() {
        times();
        orders();
        before();
        words();
        tonight();
        swapped();
        heads();
    }

    private void times() {
        b.terms(23, "TIME of an OFFICER's BORDER as it is now; SLEEP that all would lose.", this::timeAsItIsNow);
        b.refusal(23, "NONE: no such ones.", "no such ones", () -> noSuchOfficerOrWhat("time", WokenBorder::time));
    }

    private interface OfficerAndWhat {
        int ask(WokenBorder x, int officer, int what);
    }

    private void noSuchOfficerOrWhat(String call, OfficerAndWhat asked) {
        for (int what = 0; what <= 1; what++) {
            int there = what;
            b.answers(call + "(1, " + what + ")", car(PLAIN), x -> bit(asked.ask(x, 1, there) >= 0), 1);
            b.refused(call + "(0, " + what + ") without a CAR", Worlds::shelf, x -> asked.ask(x, 0, there), NONE);
            b.refused(call + "(0, " + what + ") of a new object", WokenBorder::new, x -> asked.ask(x, 0, there), NONE);
        }
        for (int officer : NO_OFFICERS) {
            b.refused(call + "(" + officer + ", 0)", Worlds::lived, x -> asked.ask(x, officer, 0), NONE);
            b.refused(call + "(" + officer + ", 1)", Worlds::lived, x -> asked.ask(x, officer, 1), NONE);
        }
        for (int what : NO_WHATS) {
            b.refused(call + "(0, " + what + ")", Worlds::lived, x -> asked.ask(x, 0, what), NONE);
        }
    }

    private void timeAsItIsNow() {
        Supplier<WokenBorder> world = car("se9;pt1;pt2n9;pc1;of1t0");
        b.refused("TENS, all ASLEEP", world, x -> x.time(0, 0), 21);
        b.refused("SLEEP, all ASLEEP", world, x -> x.time(0, 1), 8 + 14);
        b.refused("TENS, one awake", after(world, x -> x.wake(0)), x -> x.time(0, 0), 12);
        b.refused("SLEEP, one awake", after(world, x -> x.wake(0)), x -> x.time(0, 1), 14);
        b.refused("TENS, none ASLEEP", after(world, x -> x.border(0)), x -> x.time(0, 0), 3);
        b.refused("SLEEP, none ASLEEP", after(world, x -> x.border(0)), x -> x.time(0, 1), 0);
        b.refused("the last COFFEE is not drunk", asking("sc1;pt1l1;ok1"), x -> x.time(0, 0), 1);
    }

    /** All who LACK something ask for a COFFEE. */
    private static Supplier<WokenBorder> asking(String car) {
        return after(car(car), x -> x.say(0, 2), x -> x.say(1, 2));
    }

    private void orders() {
        b.terms(24, "ORDER for an OFFICER (7 PAPERS at most): of all orders of PAPERS the one with the least TENS (of "
                + "several the least as digits, the first the highest); that.", this::leastOfAllOrders);
        b.refusal(24, "NONE: no such ones.", "no such ones", () -> noSuchOfficerOrWhat("order", WokenBorder::order));
        b.refusal(24, "HIDDEN: more than seven PAPERS.", "more than seven PAPERS", this::moreThanSevenPapers);
        b.terms(25, "BOUND: the greater of all stamps and FACES (by who is ASLEEP now) together, and the greatest of "
                + "any own turn with its WAIT (COFFEES by SAID, as if one were there for each).", this::greaterOfBoth);
        b.refusal(25, "NONE: no such OFFICER.", "no such OFFICER",
                () -> noSuchOfficer("bound", WokenBorder::bound, 1, 18));
    }

    private void noSuchOfficer(String call, Asked asked, int there, int want) {
        b.answers(call + "(" + there + ")", car(PLAIN), x -> asked.ask(x, there), want);
        for (int officer : NO_OFFICERS) {
            b.refused(call + "(" + officer + ")", Worlds::lived, x -> asked.ask(x, officer), NONE);
        }
        b.refused(call + "(0) without a CAR", Worlds::shelf, x -> asked.ask(x, 0), NONE);
        b.refused(call + "(0) of a new object", WokenBorder::new, x -> asked.ask(x, 0), NONE);
        b.answers(call + "(3) of four", car("p;o;o;o;o"), x -> bit(asked.ask(x, 3) >= 0), 1);
        b.refused(call + "(4) of four", car("p;o;o;o;o"), x -> asked.ask(x, 4), NONE);
    }

    private void order(String car, int digits, int tens) {
        b.refused("order(0, 0) of " + car, car(car), x -> x.order(0, 0), digits);
        b.refused("order(0, 1) of " + car, car(car), x -> x.order(0, 1), tens);
    }

    private void leastOfAllOrders() {
        order("p;o", 0, 2);
        order("pc1;p;o", 1, 2);
        order("pc1;pc1;pc1;pc1;pc1;pc1;pc1;pc1;p;o", 8, 2);
        order("p;p;o", 1, 4);
        order("pt1;pt1l1;o", 10, 7);
        order("pt1l1;pt1l1;pt1;o", 12, 8);
        order("pt1;pt1;pt1l1;o", 201, 7);
        order("pt1;pt9;pt1l1;o", 21, 11);
        order("pt1;pt9;pt1l2;o", 201, 13);
        order("p;p;p;p;p;p;p;o", 123456, 14);
        order("p;p;p;p;p;p;pl9;o", 6012345, 56);
        order("pc1;p;p;p;pc1;p;p;p;pl9;o", 8123567, 56);
        b.answers("behind that of one who takes longer", after(car("se9;p;p;of1t9;o"), x -> x.order(0, 1)),
                x -> x.order(1, 1), 4);
        b.answers("behind GIVE", after(car("pn9s9;pn9s9;pn9s9;o"), x -> x.give(0)), x -> x.order(0, 1), 6);
        Supplier<WokenBorder> asked = after(asking("sc1;pt1l2;pt1l3;ok3"), x -> x.order(0, 1), x -> x.say(0, 0));
        b.answers("behind one who asked for a COFFEE", asked, x -> x.order(0, 1), 13);
        orderWithCoffees(0, 10, 19);
        orderWithCoffees(1, 10, 14);
        orderWithCoffees(2, 1, 2);
        orderWithCoffees(3, 1, 2);
    }

    /** They LACK 2 and 3: without COFFEES the second goes first; one is best drunk by the second. */
    private void orderWithCoffees(int coffees, int digits, int tens) {
        Supplier<WokenBorder> world = asking("sc" + coffees + ";pt1l2;pt1l3;ok3");
        b.answers("digits with COFFEES " + coffees, world, x -> x.order(0, 0), digits);
        b.answers("TENS with COFFEES " + coffees, world, x -> x.order(0, 1), tens);
        Supplier<WokenBorder> one = after(car("sc" + coffees + ";pt1l2;pt1l3;ok3"), x -> x.say(1, 2));
        b.answers("one who asks, COFFEES " + coffees, one, x -> x.order(0, 1), coffees == 0 ? 19 : 13);
    }

    private void moreThanSevenPapers() {
        String seven = "p;p;p;p;p;p;p";
        b.answers("seven", car(seven + ";o"), x -> x.order(0, 0), 123456);
        b.answers("seven, and two CHILDREN", car(seven + ";pc1;pc1;o"), x -> x.order(0, 0), 123456);
        for (int what = 0; what <= 1; what++) {
            int asked = what;
            b.refused("eight, what " + what, car(seven + ";p;o"), x -> x.order(0, asked), HIDDEN);
            b.refused("nine, what " + what, car(seven + ";p;p;o"), x -> x.order(0, asked), HIDDEN);
        }
    }

    private void greaterOfBoth() {
        b.answers("stamps by one more", car("pt1l2;pt9;pt4;o"), x -> x.bound(0), 14);
        b.answers("both alike", car("pt1l2;pt9;pt3;o"), x -> x.bound(0), 13);
        b.answers("own turn by one more", car("pt1l2;pt9;pt2;o"), x -> x.bound(0), 13);
        b.answers("the greatest of own turns", car("pt1l2;pt4l2;pt3l2;o"), x -> x.bound(0), 16);
        b.answers("ASLEEP", car("se9;pt1;of1t9"), x -> x.bound(0), 19);
        b.answers("awake", after(car("se9;pt1;of1t9"), x -> x.wake(0)), x -> x.bound(0), 10);
        b.answers("no COFFEE is left", asking("sc0;pt1l2;ok2"), x -> x.bound(0), 1);
        b.answers("but TIME needs one", asking("sc0;pt1l2;ok2"), x -> x.time(0, 0), 13);
        b.answers("one COFFEE for two", asking("sc1;pt1l2;pt1l2;ok2"), x -> x.bound(0), 2);
        b.answers("worth more than it LACKS", asking("sc1;pt1l2;ok9"), x -> x.bound(0), 1);
        b.answers("worth less than it LACKS", asking("sc1;pt1l2;ok1"), x -> x.bound(0), 7);
    }

    private void before() {
        b.terms(26, "BEFORE: the set of SLEEPERS who are ASLEEP, with PAPERS (bits; of several the least) to be WOKEN "
                + "beforehand", this::leastSetOfSleepers);
        b.terms(26, "so that SLEEP lost beforehand, and at the BORDER by WEIGHTS of OFFICERS, is least, and no OFFICER "
                + "with a WEIGHT above 0 is LATE", this::weightAboveZero);
        b.terms(26, "SLEEP times all WEIGHTS together (beforehand that of each by hand as it is now; at the BORDER "
                + "that of the rest)", this::sleepTimesWeights);
        b.terms(26, "none, if some OFFICER is LATE with each set.", this::lateWithEachSet);
        String none = "NONE: there is none, no CAR, no such what.";
        b.refusal(26, none, "there is none", this::noSetToWake);
        b.refusal(26, none, "no CAR", () -> whatWithoutCar("before", WokenBorder::before));
        b.refusal(26, none, "no such what", () -> noSuchWhat("before", WokenBorder::before));
    }

    private void whatWithoutCar(String call, Asked asked) {
        for (int what = 0; what <= 1; what++) {
            int there = what;
            b.refused(call + "(" + what + ")", Worlds::shelf, x -> asked.ask(x, there), NONE);
            b.refused(call + "(" + what + ") of a new object", WokenBorder::new, x -> asked.ask(x, there), NONE);
            b.answers(call + "(" + what + ") with a CAR", car(PLAIN), x -> bit(asked.ask(x, there) >= 0), 1);
        }
    }

    private void noSuchWhat(String call, Asked asked) {
        b.answers(call + "(0)", car(PLAIN), x -> bit(asked.ask(x, 0) >= 0), 1);
        b.answers(call + "(1)", car(PLAIN), x -> bit(asked.ask(x, 1) >= 0), 1);
        for (int what : NO_WHATS) {
            b.refused(call + "(" + what + ")", car(PLAIN), x -> asked.ask(x, what), NONE);
            b.refused(call + "(" + what + ")", Worlds::lived, x -> asked.ask(x, what), NONE);
        }
    }

    private void before(String car, String law, int set, int sleep) {
        Supplier<WokenBorder> world = () -> Worlds.car(car, law);
        b.refused("before(0) of " + car + " by " + law, world, x -> x.before(0), set);
        b.refused("before(1) of " + car + " by " + law, world, x -> x.before(1), sleep);
    }

    private void leastSetOfSleepers() {
        String nine = "sa60e0;p;p;p;p;p;p;p;p;p;of1";
        before(nine, "y:o=9?1;y:0", 0, 0);
        before(nine, "y:o=9?0;y:1", 511, 0);
        before(nine, "y:1", 0, 9);
        before("sa60;p;pc1;p;pc1;of1", "y:o=9?0;y:1", 5, 0);
        before("sa2e9;pt1;pt1;of1t0", "", 1, 16);
        before("sa2e9;pt1n4;pt1n3;of1t0", "y:o=9?n;y:0", 2, 3);
        Supplier<WokenBorder> oneAwake = after(() -> Worlds.car("sa60;p;p;p;of1", "y:o=9?0;y:1"), x -> x.wake(1));
        b.answers("who is awake is in no set", oneAwake, x -> x.before(0), 5);
        Supplier<WokenBorder> allAwake = after(car("sa60;p;pc1;of1"), x -> x.border(0));
        b.answers("nobody ASLEEP has a PAPER", allAwake, x -> x.before(0) * 10 + x.before(1), 0);
    }

    private void weightAboveZero() {
        before("sa1e3;pt3;of1t0", "", 0, 8);
        before("sa1e3;pt4;of1t0", "", 1, 8);
        before("sa1e9;pt1;ow1f1t0;o", "", 1, 16);
        before("sa1e9;pt1;ow0f1t0;o", "", 0, 0);
        before("sa1;pt7;ow0;ow0;ow0;ow0", "", 0, 0);
        int[] withCoffees = {NONE, NONE, 0, 0};
        for (int i = 0; i <= 3; i++) {
            Supplier<WokenBorder> world = asking("sa1c" + i + ";pt1l1;pt1l1;ok1");
            b.answers("COFFEES " + i + " for two", world, x -> x.before(0), withCoffees[i]);
            Supplier<WokenBorder> second = after(car("sa1c" + i + ";pt1;pt1l1;ok1"), x -> x.say(1, 2));
            b.answers("COFFEES " + i + " for one who asks", second, x -> x.before(0), i == 0 ? NONE : 0);
            b.refused("COFFEES " + i + " for the second alone", after(world, x -> x.say(0, 0)), x -> x.before(0), NONE);
        }
    }

    private void sleepTimesWeights() {
        before("sa1e9;pt1;ow9f1t0;ow9;ow9;ow9", "", 1, 8 * 36);
        before("sa60e9;pt1;ow9f1t0;ow9;ow9;ow9", "", 0, 8 * 9);
        before("sa60;p;ow0f1", "", 0, 0);
        before("sa60e0;" + "pt1;".repeat(9) + "ow9f1;ow9f1;ow9f1;ow9f1", "y:100", 0, 9 * 99 * 36);
        before("sa60e9;pt1;pt1;of1t0", "y:o=9?100;y:t*99", 0, 99);
        before("sa60e9;pt1;pt1;of1t0", "y:t", 2, 0);
        before("sa60e9;pt1;pt1;of1t0", "y:o=9?9;y:t", 2, 9);
        before("sa60e9;pt1;pt1;of1t0", "y:o=9?10;y:t", 0, 10);
        before("sa60e0;pt1;pt2;pt3;of1t0", "y:o=9?50;y:t", 0, 1 + 3);
    }

    private void lateWithEachSet() {
        before("sa1;pt6;o", "", 0, 0);
        before("sa1;pt7;o", "", NONE, NONE);
        before("sa1e0;pt6;o;of1t0", "", 0, 8);
        before("sa1e0;pt6;o;of1t1", "", NONE, NONE);
        before("sa1e0;pt6;o;ow0f1t1", "", 0, 0);
        before("sa1;pt1l1;o", "", NONE, NONE);
        before("sa2;pt6l1;o", "", 0, 0);
    }

    private void noSetToWake() {
        for (int what = 0; what <= 1; what++) {
            int asked = what;
            Supplier<WokenBorder> late = after(Worlds::lived, x -> x.say(0, 0), x -> x.say(3, 0));
            b.refused("LATE in any case, what " + what, late, x -> x.before(asked), NONE);
            b.answers("in time, what " + what, car("sa1;pt6;o"), x -> x.before(asked), 0);
        }
    }

    private void words() {
        b.terms(27, "SAY: what to say for all with PAPERS who LACK something (digits by numbers of those, 0 .. 2; of "
                + "several the least) by which TENS times WEIGHTS of all OFFICERS together are least; that.",
                this::leastDigitsToSay);
        String none = "NONE: nobody with a PAPER LACKS anything, no CAR, no such what.";
        b.refusal(27, none, "nobody with a PAPER LACKS anything", this::nobodyLacks);
        b.refusal(27, none, "no CAR", () -> whatWithoutCar("words", WokenBorder::words));
        b.refusal(27, none, "no such what", () -> noSuchWhat("words", WokenBorder::words));
    }

    private void words(String car, int digits, int tens) {
        b.refused("words(0) of " + car, car(car), x -> x.words(0), digits);
        b.refused("words(1) of " + car, car(car), x -> x.words(1), tens);
    }

    private void leastDigitsToSay() {
        words("sc9;" + "pt1l9;".repeat(9) + "ok9", 222222222, 9);
        words("sc8;" + "pt1l9;".repeat(9) + "ok9", 122222222, 28);
        words("sc9;" + "pt1l1;".repeat(9) + "ok9", 111222, 9);
        words("sc0;" + "pt1l1;".repeat(9) + "ok9", 111, 12);
        words("sc9;pt1l9;pt1l9;ow0k9", 0, 0);
        words("sc0;pt1l2;o", 1, 7);
        words("sc0e0;pt1l2;of1t0", 0, 13);
        words("sc1;pt1l2;ok0", 1, 7);
        words("sc1;pt1l2;ok1", 1, 7);
        words("sc1;pt1l2;ok2", 2, 1);
        words("sc1;pt1l2;ok9", 2, 1);
        words("sc9;pt1l1;pt9;o", 0, 10);
        words("sc9;pt1l1;pt6;o", 0, 7);
        words("sc9;pt1l1;pt5;o", 1, 6);
        words("sc0;p;pl9c1;pl1;o", 1, 7);
        words("sc0e0;pt2l2;ow1k2;ow1f1t0k1", 0, 28);
        words("sc0e0;pt2l2;ow2k2;ow1f1t0k1", 0, 42);
        words("sc0e0;pt2l2;ow3k2;ow1f1t0k1", 1, 50);
        words("sc1e0;pt2l2;ow1k2;ow1f1t0k1", 2, 10);
        // Least of all that were tried one by one.
        words("sc2e0;pt4l4;pt4l5;pt5l3;pt1l5;ow3f1t3k4;ow0f1t2k1", 202, 120);
        words("sc0e3;pt6l2;pt7l0;pt2l0;pt4l4;pt4l0;pt6l2;ow3f0t3k4;ow1f1t1k1;ow2f0t1k1;ow1f0t3k3", 11, 293);
        words("sc2e3;pt1l0;pt2l0;pt9l2;pt4l5;pt7l2;pt7l4;ow2f0t0k1;ow1f1t0k2;ow1f0t0k0", 2, 210);
    }

    private void nobodyLacks() {
        for (int what = 0; what <= 1; what++) {
            int asked = what;
            b.refused("nobody, what " + what, car("p;p;o"), x -> x.words(asked), NONE);
            b.refused("a CHILD alone, what " + what, car("p;pl9c1;o"), x -> x.words(asked), NONE);
            b.answers("one MINUTE, what " + what, car("pt1;pl1;o"), x -> bit(x.words(asked) > 0), 1);
        }
    }

    private void tonight() {
        b.terms(28, "TONIGHT: chances of an OFFICER: of 10 to the 6 parts its WEIGHT by all WEIGHTS, cut",
                this::partsCut);
        b.terms(28, "HEARD (8 at most): whether it looked at FACES, TENS of a BORDER at least: TONIGHT by those "
                + "OFFICERS alone by whom all that was HEARD could be (TIME as now; none, or WEIGHTS 0: 0).",
                this::couldBe);
        b.refusal(28, "NONE: no such OFFICER.", "no such OFFICER",
                () -> noSuchOfficer("tonight", WokenBorder::tonight, 1, 500000));
        b.promise(29, "HEARD (tens 0 .. 999): how many there are.", this::heardBounds);
        String none = "NONE: no CAR, out of bounds, there are eight.";
        b.refusal(29, none, "no CAR", this::heardWithoutCar);
        b.refusal(29, none, "out of bounds", this::heardOutOfBounds);
        b.refusal(29, none, "there are eight", this::thereAreEight);
    }

    private void chances(String car, int... parts) {
        for (int i = 0; i < parts.length; i++) {
            int officer = i;
            b.refused("tonight(" + i + ") of " + car, car(car), x -> x.tonight(officer), parts[i]);
        }
    }

    private void partsCut() {
        chances("p;ow1", 1000000);
        chances("p;ow9", 1000000);
        chances("p;ow0", 0);
        chances("p;ow0;ow9", 0, 1000000);
        chances("p;ow1;ow2", 333333, 666666);
        chances("p;ow1;ow6", 142857, 857142);
        chances("p;ow9;ow9;ow9;ow9", 250000, 250000, 250000, 250000);
        chances("p;ow1;ow9;ow9;ow9", 35714, 321428, 321428, 321428);
        chances("p;ow0;ow0;ow0;ow0", 0, 0, 0, 0);
    }

    private void couldBe() {
        Supplier<WokenBorder> two = car("pt5;ow1;ow3");
        b.answers("TENS just as HEARD", after(two, x -> x.hear(false, 5)), x -> x.tonight(1), 750000);
        b.answers("TENS below what was HEARD", after(two, x -> x.hear(false, 6)), x -> x.tonight(1), 0);
        b.answers("none at all HEARD", two, x -> x.tonight(1), 750000);
        b.answers("FACES HEARD, none looks", after(two, x -> x.hear(true, 0)), x -> x.tonight(0), 0);
        Supplier<WokenBorder> faces = car("se1;pt5;ow1;ow3f1t0");
        b.answers("FACES HEARD", after(faces, x -> x.hear(true, 6)), x -> x.tonight(1), 1000000);
        b.answers("the other can't be", after(faces, x -> x.hear(true, 6)), x -> x.tonight(0), 0);
        b.answers("one more", after(faces, x -> x.hear(true, 7)), x -> x.tonight(1), 0);
        b.answers("TIME as now", after(faces, x -> x.hear(true, 6), x -> x.wake(0)), x -> x.tonight(1), 0);
        b.answers("all that was HEARD", after(faces, x -> x.hear(true, 0), x -> x.hear(false, 0)), x -> x.tonight(1),
                0);
        Supplier<WokenBorder> light = after(car("p;ow0;ow3f1"), x -> x.hear(false, 0));
        b.answers("WEIGHTS 0 of those who could be", light, x -> x.tonight(0), 0);
        b.answers("who could not be", light, x -> x.tonight(1), 0);
        b.answers("the eighth alone tells", after(() -> heard(7), x -> x.hear(true, 0)), x -> x.tonight(0), 0);
        b.answers("seven do not", () -> heard(7), x -> x.tonight(0), 1000000);
        b.answers("a ninth is not heard", after(() -> heard(8), x -> x.hear(true, 0)), x -> x.tonight(0), 1000000);
    }

    private static WokenBorder heard(int times) {
        WokenBorder x = Due.car("p;o");
        for (int i = 0; i < times; i++) {
            x.hear(false, 1);
        }
        return x;
    }

    private void heardBounds() {
        b.answers("0", car("p;o"), x -> x.hear(true, 0), 1);
        b.answers("999", car("p;o"), x -> x.hear(true, 999), 1);
        b.refused("-1", Worlds::lived, x -> x.hear(true, -1), NONE);
        b.refused("1000", Worlds::lived, x -> x.hear(true, 1000), NONE);
    }

    private void heardWithoutCar() {
        b.refused("hear(true, 0)", Worlds::shelf, x -> x.hear(true, 0), NONE);
        b.refused("hear(false, 999) of a new object", WokenBorder::new, x -> x.hear(false, 999), NONE);
        b.answers("hear(false, 0) with a CAR", car("p;o"), x -> x.hear(false, 0), 1);
    }

    private void heardOutOfBounds() {
        for (int tens : new int[] {-1, 1000, LEAST, MOST}) {
            b.refused("hear(true, " + tens + ")", Worlds::lived, x -> x.hear(true, tens), NONE);
            b.refused("hear(false, " + tens + ")", Worlds::lived, x -> x.hear(false, tens), NONE);
        }
        b.answers("hear(true, 999)", Worlds::lived, x -> x.hear(true, 999), 2);
    }

    private void thereAreEight() {
        b.answers("the first", () -> heard(0), x -> x.hear(true, 0), 1);
        b.answers("the eighth", () -> heard(7), x -> x.hear(true, 0), 8);
        b.refused("a ninth", () -> heard(8), x -> x.hear(true, 0), NONE);
        b.refused("a ninth, as the others", () -> heard(8), x -> x.hear(false, 1), NONE);
    }

    private void swapped() {
        b.terms(31, "SWAPPED: none, or two BERTHS whose SLEEPERS' FACES are unlike, might have been taken for one "
                + "another (BERTHS as told at first).", this::unlikeFaces);
        b.terms(30, "LOOKS (10 at most): at a BERTH the FACE was that of who lay there at first, or not.",
                this::tenLooks);
        b.terms(31, "FIT: ways by which all LOOKS are so (0: none SWAPPED; else 10 times the one and the other BERTH, "
                + "and 1 more than 100): how many, the i-th (rising).", this::waysThatFit);
        b.terms(32, "LOOK: the BERTH at which ways that fit say yes and no least apart in number (of several the "
                + "lowest).", this::leastApart);
        b.promise(30, "LOOKS: how many there are.", this::howManyLooks);
        String look = "NONE: no such BERTH, there are ten.";
        b.refusal(30, look, "no such BERTH", this::noSuchBerth);
        b.refusal(30, look, "there are ten", this::thereAreTen);
        b.promise(31, "FIT: how many (i NONE), the i-th.", this::howManyFit);
        String fit = "NONE: no such one, no CAR.";
        b.refusal(31, fit, "no such one", this::noSuchWay);
        b.refusal(31, fit, "no CAR", () -> withoutCar("fit", x -> x.fit(NONE), NONE, car("pf1;pf2;o"), 2));
        String best = "NONE: no way fits, no CAR.";
        b.refusal(32, best, "no way fits", this::noWayFits);
        b.refusal(32, best, "no CAR", () -> withoutCar("best", WokenBorder::best, NONE, car("pf1;pf2;o"), 0));
    }

    private void unlikeFaces() {
        b.answers("one alone", car("p;o"), x -> x.fit(NONE), 1);
        b.answers("two alike", car("pf1;pf1;o"), x -> x.fit(NONE), 1);
        b.answers("two unlike by one", car("pf1;pf2;o"), x -> x.fit(NONE), 2);
        b.answers("two unlike by all", car("pf0;pf9;o"), x -> x.fit(NONE), 2);
        b.answers("a CHILD, too", car("pf0;pf9c1;o"), x -> x.fit(NONE), 2);
        b.answers("BERTHS as told at first", after(car("pf1;pf1;pf2;o"), x -> x.swap(0, 2)), x -> x.fit(1), 103);
        b.answers("ways as told at first", after(car("pf1;pf1;pf2;o"), x -> x.swap(0, 2)), x -> x.fit(2), 113);
    }

    private void tenLooks() {
        b.answers("that of who lay there", after(car("pf1;pf2;o"), x -> x.lookAt(0, true)), x -> x.fit(0), 0);
        b.answers("or not", after(car("pf1;pf2;o"), x -> x.lookAt(1, false)), x -> x.fit(0), 102);
        b.answers("the tenth alone tells", after(() -> looked(9), x -> x.lookAt(1, false)), x -> x.fit(NONE), 1);
        b.answers("nine do not", () -> looked(9), x -> x.fit(NONE), 3);
        b.answers("an eleventh is not seen", after(() -> looked(10), x -> x.lookAt(1, false)), x -> x.fit(NONE), 3);
    }

    /** Three unlike ones; LOOKS at the fourth, who is like the third, tell nothing of the first two. */
    private static WokenBorder looked(int times) {
        WokenBorder x = Due.car("pf1;pf2;pf2;pf2;o");
        for (int i = 0; i < times; i++) {
            x.lookAt(3, true);
        }
        return x;
    }

    private void waysThatFit() {
        String nine = "pf1;pf2;pf3;pf4;pf5;pf6;pf7;pf8;pf9;o";
        b.answers("none SWAPPED is the first", car(nine), x -> x.fit(0), 0);
        b.answers("the lowest two", car(nine), x -> x.fit(1), 102);
        b.answers("one on", car(nine), x -> x.fit(8), 109);
        b.answers("and on", car(nine), x -> x.fit(9), 113);
        b.answers("the highest two", car(nine), x -> x.fit(36), 179);
        b.answers("how many", car(nine), x -> x.fit(NONE), 37);
        b.answers("no LOOK fits both", after(car(nine), x -> x.lookAt(0, true), x -> x.lookAt(0, false)),
                x -> x.fit(NONE), 0);
    }

    private void leastApart() {
        b.answers("one alone", car("p;o"), WokenBorder::best, 0);
        b.answers("all alike: all say yes", car("p;p;p;o"), WokenBorder::best, 0);
        b.answers("one and one at both", car("pf1;pf2;o"), WokenBorder::best, 0);
        b.answers("two and four, then three and three", car("pf1;pf2;pf1;pf3;o"), WokenBorder::best, 1);
        b.answers("three and three at the last two", car("pf2;pf2;pf1;pf3;o"), WokenBorder::best, 2);
        b.answers("three and one, or one and three", car("pf2;pf1;pf1;pf1;o"), WokenBorder::best, 0);
        b.answers("nine, all as far apart", car("pf1;pf2;pf3;pf4;pf5;pf6;pf7;pf8;pf9;o"), WokenBorder::best, 0);
        b.answers("two and one at two, one and two at the last", car("pf3;pf3;pf1;o"), WokenBorder::best, 0);
        b.answers("one way alone, none SWAPPED is out",
                after(car("pf4;pf4;pf3;o"), x -> x.lookAt(2, false), x -> x.lookAt(1, false)), WokenBorder::best, 0);
        b.answers("one way left", after(car("pf1;pf2;o"), x -> x.lookAt(1, false)), WokenBorder::best, 0);
    }

    private void howManyLooks() {
        for (int n : new int[] {0, 1, 9}) {
            b.answers("behind " + n, () -> looked(n), x -> x.lookAt(0, true) * 100 + x.count(10), 101 * (n + 1));
        }
    }

    private void noSuchBerth() {
        b.answers("lookAt(0, true)", Worlds::lived, x -> x.lookAt(0, true), 2);
        b.answers("lookAt(3, true)", Worlds::lived, x -> x.lookAt(3, true), 2);
        for (int berth : new int[] {-1, 4, 9, LEAST, MOST}) {
            b.refused("lookAt(" + berth + ", true)", Worlds::lived, x -> x.lookAt(berth, true), NONE);
            b.refused("lookAt(" + berth + ", false)", Worlds::lived, x -> x.lookAt(berth, false), NONE);
        }
        b.refused("lookAt(0, true) without a CAR", Worlds::shelf, x -> x.lookAt(0, true), NONE);
        b.answers("lookAt(8, true) of nine", car("p;p;p;p;p;p;p;p;p;o"), x -> x.lookAt(8, true), 1);
        b.refused("lookAt(9, true) of nine", car("p;p;p;p;p;p;p;p;p;o"), x -> x.lookAt(9, true), NONE);
    }

    private void thereAreTen() {
        b.answers("the first", () -> looked(0), x -> x.lookAt(1, false), 1);
        b.answers("the tenth", () -> looked(9), x -> x.lookAt(1, false), 10);
        b.refused("an eleventh", () -> looked(10), x -> x.lookAt(1, false), NONE);
        b.refused("an eleventh, as the others", () -> looked(10), x -> x.lookAt(3, true), NONE);
    }

    private void howManyFit() {
        b.answers("how many", car("pf1;pf2;o"), x -> x.fit(NONE), 2);
        b.answers("the first", car("pf1;pf2;o"), x -> x.fit(0), 0);
        b.answers("the last", car("pf1;pf2;o"), x -> x.fit(1), 102);
        b.answers("how many, if none", noneFits(), x -> x.fit(NONE), 0);
    }

    private static Supplier<WokenBorder> noneFits() {
        return after(Worlds::lived, x -> x.lookAt(1, false));
    }

    private void noSuchWay() {
        for (int i : new int[] {-2, 2, 3, LEAST, MOST}) {
            b.refused("fit(" + i + ") of two", car("pf1;pf2;o"), x -> x.fit(i), NONE);
        }
        b.refused("fit(0) of none", noneFits(), x -> x.fit(0), NONE);
        b.refused("fit(37) of 37", car("pf1;pf2;pf3;pf4;pf5;pf6;pf7;pf8;pf9;o"), x -> x.fit(37), NONE);
    }

    private void noWayFits() {
        b.refused("none", noneFits(), WokenBorder::best, NONE);
        b.answers("one", after(car("pf1;pf2;o"), x -> x.lookAt(0, true)), WokenBorder::best, 0);
    }

    private void heads() {
        b.terms(33, "HEADS: sets of CHILDREN (bits of SLEEPERS) who were counted, if so many heads were: all others, "
                + "and these: how many, the i-th (rising).", this::setsOfChildren);
        b.promise(33, "HEADS (0 .. 9): how many (i NONE), the i-th.", this::headsFromNoneToNine);
        String none = "NONE: no such one, out of bounds, no CAR.";
        b.refusal(33, none, "no such one", this::noSuchSet);
        b.refusal(33, none, "out of bounds", this::headsOutOfBounds);
        b.refusal(33, none, "no CAR",
                () -> withoutCar("heads(0, NONE)", x -> x.heads(0, NONE), NONE, car("pf1;pf2;o"), 0));
    }

    private void setsOfChildren() {
        String car = "p;pc1;pc1;o";
        int[] many = {0, 1, 2, 1, 0};
        for (int n = 0; n <= 4; n++) {
            int asked = n;
            b.answers("heads(" + n + ", NONE)", car(car), x -> x.heads(asked, NONE), many[n]);
        }
        b.answers("no CHILD", car(car), x -> x.heads(1, 0), 0);
        b.answers("the first of one CHILD", car(car), x -> x.heads(2, 0), 2);
        b.answers("the last of one CHILD", car(car), x -> x.heads(2, 1), 4);
        b.answers("all of them", car(car), x -> x.heads(3, 0), 6);
        b.answers("no CHILD is there", car("p;p;o"), x -> x.heads(2, 0), 0);
        b.answers("a CHILD that is the first", car("pc1;p;o"), x -> x.heads(2, 0), 1);
        b.answers("it was not counted", car("pc1;p;o"), x -> x.heads(1, 0), 0);
        b.answers("one too many", car("p;p;o"), x -> x.heads(3, NONE), 0);
    }

    private void headsFromNoneToNine() {
        String car = "p;pc1;pc1;pc1;pc1;pc1;pc1;pc1;pc1;o";
        b.answers("0 heads", car(car), x -> x.heads(0, NONE), 0);
        b.answers("9 heads", car(car), x -> x.heads(9, NONE), 1);
        b.answers("all eight CHILDREN", car(car), x -> x.heads(9, 0), 510);
        b.answers("four of eight", car(car), x -> x.heads(5, NONE), 70);
        b.answers("the first of 70", car(car), x -> x.heads(5, 0), 30);
        b.answers("the last of 70", car(car), x -> x.heads(5, 69), 480);
        b.answers("nine who are no CHILDREN", car("p;p;p;p;p;p;p;p;p;o"), x -> x.heads(9, 0), 0);
    }

    private void noSuchSet() {
        String car = "p;pc1;pc1;pc1;pc1;pc1;pc1;pc1;pc1;o";
        for (int i : new int[] {-2, 70, 71, LEAST, MOST}) {
            b.refused("heads(5, " + i + ") of 70", car(car), x -> x.heads(5, i), NONE);
        }
        b.refused("heads(0, 0) of none", Worlds::lived, x -> x.heads(0, 0), NONE);
        b.refused("heads(3, 1) of one", Worlds::lived, x -> x.heads(3, 1), NONE);
        b.answers("heads(3, 0) of one", Worlds::lived, x -> x.heads(3, 0), 0);
        b.refused("heads(5, 0), one too many", Worlds::lived, x -> x.heads(5, 0), NONE);
    }

    private void headsOutOfBounds() {
        for (int n : new int[] {-1, 10, LEAST, MOST}) {
            b.refused("heads(" + n + ", NONE)", Worlds::lived, x -> x.heads(n, NONE), NONE);
            b.refused("heads(" + n + ", 0)", Worlds::lived, x -> x.heads(n, 0), NONE);
        }
        b.answers("heads(0, NONE)", Worlds::lived, x -> x.heads(0, NONE), 0);
        b.answers("heads(9, NONE)", Worlds::lived, x -> x.heads(9, NONE), 0);
    }
}
