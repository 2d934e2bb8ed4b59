import java.util.function.Supplier;

/** Boundary sentences about ACTS: ==== 2 of the Terms, and promises 11 to 16. */
final class BoundActs extends Sentences {
    BoundActs(Bounds b) {
        super(b);
    }

    @Override
    void all() {
        sleep();
        byHand();
        borders();
        promises11To16();
    }

    private void sleep() {
        b.terms(7, "SLEEPERS lie in BERTHS by their numbers at first, ASLEEP; PAPERS of all but CHILDREN lie in the "
                + "DRAWER by numbers at first.", this::atFirst);
        b.terms(13, "WORTH by the LAW that holds (none at first: 5 more than its NERVES, and 5 for each time it was "
                + "WOKEN before), held within 0 .. 99", this::heldWithin99);
        b.terms(13, "letters: n NERVES, w how often it was WOKEN before", this::timesBefore);
        b.terms(13, "c CHILD (1, 0)", this::childOrNot);
        b.terms(13, "t TENS that went by at this BORDER so far (0 by hand)", this::tensSoFar);
        b.terms(13, "o the OFFICER (by hand: 9)", this::officerOrHand);
        b.terms(13, "s SNORES of both beside it in BERTHS together", this::snoresBeside);
    }

    private void atFirst() {
        String car = "pc1;p;pc1;p;p;o";
        int[] places = {NONE, 0, NONE, 1, 2};
        for (int i = 0; i < 5; i++) {
            int who = i;
            b.answers("BERTH of " + who, car(car), x -> x.sleeper(who, 6), who);
            b.answers("place of " + who, car(car), x -> x.sleeper(who, 7), places[who]);
            b.answers("ASLEEP " + who, car(car), x -> x.sleeper(who, 9), 1);
            b.answers("SLEEP lost by " + who, car(car), x -> x.sleeper(who, 10), 0);
        }
        b.answers("PAPERS", car(car), x -> x.count(6), 3);
        b.answers("all ASLEEP", car(car), x -> x.count(7), 5);
        b.answers("the last BERTH", car(NINE), x -> x.sleeper(8, 6), 8);
        b.answers("the last place", car(NINE), x -> x.sleeper(8, 7), 8);
    }

    private void heldWithin99() {
        int[] worths = {0, 1, 98, 99, 100, 9999};
        for (int worth : worths) {
            byLaw("y:" + worth, Math.min(99, worth));
        }
        byLaw("y:0-1", 0);
        byLaw("y:0-9999", 0);
        b.answers("NERVES 0", car("pn0;o"), x -> x.wake(0), 5);
        b.answers("NERVES 9", car("pn9;o"), x -> x.wake(0), 14);
        b.answers("NERVES 9, WOKEN 17 times before", () -> wokenBefore("pn9;o", 17), x -> x.wake(0), 99);
        b.answers("NERVES 9, WOKEN 18 times before", () -> wokenBefore("pn9;o", 18), x -> x.wake(0), 99);
        b.answers("NERVES 3, WOKEN 18 times before", () -> wokenBefore("pn3;o", 18), x -> x.wake(0), 98);
        b.answers("NERVES 4, WOKEN 18 times before", () -> wokenBefore("pn4;o", 18), x -> x.wake(0), 99);
        b.answers("NERVES 5, WOKEN 18 times before", () -> wokenBefore("pn5;o", 18), x -> x.wake(0), 99);
        b.answers("what one loses in all is not held", () -> wokenLaw("y:100"), x -> x.sleeper(0, 10), 198);
        b.answers("what all lose is not held", () -> Worlds.car("p;p;of1", "y:100"), x -> x.time(0, 1), 198);
    }

    /** By hand, at a BORDER, and as TIME tells it. */
    private void byLaw(String law, int want) {
        Supplier<WokenBorder> world = () -> Worlds.car("p;of1", law);
        b.answers("by hand, " + law, world, x -> x.wake(0), want);
        b.answers("at a BORDER, " + law, after(world, x -> x.border(0)), x -> x.log(0, 3), want);
        b.answers("as TIME tells it, " + law, world, x -> x.time(0, 1), want);
        b.answers("in all, " + law, after(world, x -> x.wake(0)), x -> x.count(13), want);
    }

    private static WokenBorder wokenBefore(String car, int times) {
        WokenBorder x = Due.car(car);
        for (int i = 0; i < times; i++) {
            x.wake(0);
            x.lie(0);
        }
        return x;
    }

    private static WokenBorder wokenLaw(String law) {
        WokenBorder x = Worlds.car("p;o", law);
        x.wake(0);
        x.lie(0);
        x.wake(0);
        return x;
    }

    private void timesBefore() {
        Supplier<WokenBorder> world = () -> Worlds.car("pn0;pn9;of1", "y:10*n+w");
        b.answers("NERVES 0, never before", world, x -> x.wake(0), 0);
        b.answers("NERVES 9, never before", world, x -> x.wake(1), 90);
        b.answers("once before, by hand", after(world, x -> x.wake(0), x -> x.lie(0)), x -> x.wake(0), 1);
        b.answers("once before, at a BORDER", after(world, x -> x.border(0), x -> x.lie(1)), x -> x.wake(1), 91);
        b.answers("once before, at a BORDER again", after(world, x -> x.wake(0), x -> x.lie(0), x -> x.border(0)),
                x -> x.sleeper(0, 10), 1);
        b.answers("never, as it was UNDONE", after(world, x -> x.wake(0), WokenBorder::undo), x -> x.wake(0), 0);
    }

    private void childOrNot() {
        Supplier<WokenBorder> world = () -> Worlds.car("p;pc1;pc0;o", "y:c+5");
        b.answers("no CHILD", world, x -> x.wake(0), 5);
        b.answers("a CHILD", world, x -> x.wake(1), 6);
        b.answers("no CHILD, told so", world, x -> x.wake(2), 5);
    }

    private void tensSoFar() {
        Supplier<WokenBorder> world = () -> Worlds.car("se9;pt9;pt9;of1t9", "y:t+7");
        b.answers("by hand", world, x -> x.wake(1), 7);
        b.answers("by hand, behind a BORDER", after(world, x -> x.border(0), x -> x.lie(1)), x -> x.wake(1), 7);
        b.answers("the first at a BORDER", after(world, x -> x.border(0)), x -> x.sleeper(0, 10), 7);
        b.answers("the second", after(world, x -> x.border(0)), x -> x.sleeper(1, 10), 27 + 7);
    }

    private void officerOrHand() {
        Supplier<WokenBorder> world = () -> Worlds.car("p;of1;of1;of1;of1", "y:o+1");
        b.answers("by hand", world, x -> x.wake(0), 10);
        for (int i = 0; i < 4; i++) {
            int officer = i;
            b.answers("OFFICER " + officer, after(world, x -> x.border(officer)), x -> x.log(0, 3), officer + 1);
        }
    }

    private void snoresBeside() {
        Supplier<WokenBorder> world = () -> Worlds.car("ps9;ps1;ps8;ps2;o", "y:s");
        b.answers("alone", () -> Worlds.car("ps9;o", "y:s+1"), x -> x.wake(0), 1);
        b.answers("in the first BERTH", world, x -> x.wake(0), 1);
        b.answers("between two", world, x -> x.wake(1), 17);
        b.answers("between two", world, x -> x.wake(2), 3);
        b.answers("in the last BERTH", world, x -> x.wake(3), 8);
        b.answers("in the last BERTH behind a SWAP", after(world, x -> x.swap(0, 3)), x -> x.wake(0), 8);
        b.answers("in the first BERTH behind a SWAP", after(world, x -> x.swap(0, 3)), x -> x.wake(3), 1);
        b.answers("18 together", () -> Worlds.car("ps9;p;ps9;o", "y:s"), x -> x.wake(1), 18);
    }

    private void byHand() {
        b.terms(11, "a PAPER is MOVED to a place of the DRAWER (from 0; those between go one on or back)",
                this::movedFromEndToEnd);
        b.terms(12, "for one with a PAPER who LACKS something another thing is SAID (0 nothing, at first, 1 an excuse, "
                + "2 with a COFFEE)", this::anotherThingIsSaid);
        b.terms(13, "one who is ASLEEP is WOKEN (beforehand)", this::asleepIsWoken);
        b.terms(14, "one who is awake LIES down (ASLEEP again, loses nothing)", this::awakeLiesDown);
        b.terms(15, "two SLEEPERS SWAP BERTHS.", this::twoSwapBerths);
        b.terms(7, "p (a SLEEPER; 1 .. 9)", this::allOfNine);
        b.terms(18, "All these are ACTS: the latest 40 can be UNDONE one by one (LOG, too).", this::latestForty);
        b.terms(19, "LOG: of BORDERS (the latest 60): OFFICER, TENS, LATE (1, 0), SLEEP lost at it.",
                this::latestSixty);
    }

    private void movedFromEndToEnd() {
        moved(0, 8, 123456780);
        moved(8, 0, 801234567);
        moved(8, 7, 12345687);
        moved(0, 1, 102345678);
        moved(4, 5, 12354678);
        moved(4, 3, 12435678);
        b.refused("a PAPER alone has no other place", car("p;pc1;o"), x -> x.move(0, 0), NONE);
        b.answers("there and again", car(NINE), x -> x.move(0, 8) * 10 + x.move(0, 0), 8);
    }

    private void moved(int who, int place, int drawer) {
        b.answers("move(" + who + ", " + place + ")", car(NINE), x -> x.move(who, place), who);
        b.answers("DRAWER behind move(" + who + ", " + place + ")", after(car(NINE), x -> x.move(who, place)),
                Due::drawer, drawer);
    }

    private void anotherThingIsSaid() {
        b.answers("nothing at first", car("pl1;o"), x -> x.sleeper(0, 8), 0);
        for (int was = 0; was <= 2; was++) {
            for (int what = 0; what <= 2; what++) {
                int before = was;
                int now = what;
                if (now == before) {
                    b.refused(now + " behind " + before, () -> said(before), x -> x.say(0, now), NONE);
                } else {
                    b.answers(now + " behind " + before, () -> said(before), x -> x.say(0, now), before);
                }
                b.answers(now + " is SAID", after(() -> said(before), x -> x.say(0, now)), x -> x.sleeper(0, 8), now);
            }
        }
        b.answers("LACKS one MINUTE", car("pl1;o"), x -> x.say(0, 1), 0);
        b.refused("LACKS none", car("pl0;o"), x -> x.say(0, 1), NONE);
        b.refused("a CHILD that would LACK", car("p;pl9c1;o"), x -> x.say(1, 1), NONE);
    }

    private static WokenBorder said(int what) {
        WokenBorder x = Due.car("pl1;o");
        if (what != 0) {
            x.say(0, what);
        }
        return x;
    }

    private void asleepIsWoken() {
        b.answers("ASLEEP", car("p;o"), x -> x.wake(0), 8);
        b.answers("awake then", after(car("p;o"), x -> x.wake(0)), x -> x.sleeper(0, 9), 0);
        b.answers("WOKEN once", after(car("p;o"), x -> x.wake(0)), x -> x.woken(0), 1);
        b.refused("awake already", after(car("p;o"), x -> x.wake(0)), x -> x.wake(0), NONE);
        b.answers("WOKEN no more", after(car("p;o"), x -> x.wake(0), x -> x.wake(0)), x -> x.woken(0), 1);
        b.answers("a CHILD, too", car("p;pc1;o"), x -> x.wake(1), 8);
    }

    private void awakeLiesDown() {
        b.answers("awake", after(() -> wokenBefore("p;o", 0), x -> x.wake(0)), x -> x.lie(0), 1);
        b.refused("ASLEEP at first", car("p;o"), x -> x.lie(0), NONE);
        b.refused("ASLEEP again", () -> wokenBefore("p;o", 1), x -> x.lie(0), NONE);
        b.answers("loses nothing", () -> wokenBefore("p;o", 1), x -> x.sleeper(0, 10), 8);
        b.answers("is not WOKEN by it", () -> wokenBefore("p;o", 1), x -> x.woken(0), 1);
    }

    private void twoSwapBerths() {
        b.answers("the first goes last", after(car(NINE), x -> x.swap(0, 8)), x -> x.sleeper(0, 6), 8);
        b.answers("the last goes first", after(car(NINE), x -> x.swap(0, 8)), x -> x.sleeper(8, 6), 0);
        b.answers("the others stay", after(car(NINE), x -> x.swap(0, 8)), x -> x.sleeper(4, 6), 4);
        b.answers("there and again", after(car(NINE), x -> x.swap(0, 8), x -> x.swap(0, 8)), x -> x.sleeper(0, 6), 0);
        b.answers("by SLEEPERS, not by BERTHS", after(car(NINE), x -> x.swap(0, 1), x -> x.swap(0, 2)),
                x -> x.sleeper(1, 6), 0);
        b.answers("a CHILD, too", after(car("p;pc1;o"), x -> x.swap(1, 0)), x -> x.sleeper(1, 6), 0);
    }

    /** In the largest CAR what is kept of one touches nothing that is kept of another. */
    private void allOfNine() {
        Supplier<WokenBorder> world = after(() -> Worlds.car("sc9;" + "pl1;".repeat(9) + "of1", "y:20+w"),
                x -> x.move(8, 0), x -> x.move(0, 8), x -> x.swap(0, 8), x -> x.say(0, 1), x -> x.say(8, 2),
                x -> x.wake(0), x -> x.wake(8), x -> x.lie(8), x -> x.wake(8));
        int[][] want = {{8, 8, 1, 0, 20}, {1, 1, 0, 1, 0}, {2, 2, 0, 1, 0}, {3, 3, 0, 1, 0}, {4, 4, 0, 1, 0},
            {5, 5, 0, 1, 0}, {6, 6, 0, 1, 0}, {7, 7, 0, 1, 0}, {0, 0, 2, 0, 41}};
        int[] woken = {1, 0, 0, 0, 0, 0, 0, 0, 2};
        for (int i = 0; i < 9; i++) {
            int who = i;
            for (int k = 0; k < 5; k++) {
                int what = 6 + k;
                b.answers("of nine, sleeper(" + who + ", " + what + ")", world, x -> x.sleeper(who, what), want[i][k]);
            }
            b.answers("of nine, woken(" + who + ")", world, x -> x.woken(who), woken[i]);
        }
        b.answers("of nine, COFFEES", world, x -> x.rule(2), 9);
        b.answers("of nine, LOG", world, x -> x.count(11), 0);
    }

    private void latestForty() {
        for (int acts : new int[] {1, 39, 40, 41, 42}) {
            int kept = Math.min(40, acts);
            Supplier<WokenBorder> world = () -> Worlds.swapped(acts);
            b.answers("ACTS behind " + acts, world, x -> x.count(12), kept);
            b.answers("one UNDONE of " + acts, world, WokenBorder::undo, kept - 1);
            b.answers("the last UNDONE of " + acts, () -> Worlds.undone(Worlds.swapped(acts), kept - 1),
                    WokenBorder::undo, 0);
            b.refused("one more of " + acts, () -> Worlds.undone(Worlds.swapped(acts), kept), WokenBorder::undo, NONE);
            b.answers("BERTH behind all of " + acts, () -> Worlds.undone(Worlds.swapped(acts), kept),
                    x -> x.sleeper(0, 6), (acts - kept) % 2);
        }
        for (int borders : new int[] {1, 40, 41}) {
            int kept = Math.min(40, borders);
            b.answers("LOG of " + borders + ", all UNDONE", () -> Worlds.undone(Worlds.passed("p;o", borders), kept),
                    x -> x.count(11), borders - kept);
        }
        eachKindOfAct();
        refusedBehindForty();
    }

    /** A call that is refused takes nothing from the forty that can be UNDONE. */
    private void refusedBehindForty() {
        Supplier<WokenBorder> forty = after(car(Worlds.CAR), x -> x.wake(0), x -> swaps(x, 39));
        b.refused("move", forty, x -> x.move(0, 0), NONE);
        b.refused("say", forty, x -> x.say(0, 0), NONE);
        b.refused("wake", forty, x -> x.wake(0), NONE);
        b.refused("lie", forty, x -> x.lie(1), NONE);
        b.refused("swap", forty, x -> x.swap(1, 1), NONE);
        b.refused("border", forty, x -> x.border(2), NONE);
        b.refused("nights", forty, x -> x.nights(21, 1), NONE);
    }

    /** Each kind of ACT is the oldest of forty, and then the one that is too old. */
    private void eachKindOfAct() {
        String[] kinds = {"m01", "y01", "w0", "l1", "x01", "b1"};
        for (String kind : kinds) {
            Supplier<WokenBorder> before = () -> readyFor(kind);
            Supplier<WokenBorder> after = () -> performed(readyFor(kind));
            long was = sceneOf(before.get());
            long is = sceneOf(after.get());
            b.due(kind + " changes something", was != is, true);
            b.answers(kind + ", the oldest of forty", () -> Worlds.undone(swaps(after.get(), 39), 40),
                    BoundActs::sceneOf, was);
            b.answers(kind + ", too old", () -> Worlds.undone(swaps(after.get(), 40), 40), BoundActs::sceneOf, is);
        }
    }

    private static WokenBorder readyFor(String kind) {
        WokenBorder x = Due.car(Worlds.CAR);
        x.wake(1);
        x.say(0, 2);
        Due.tell(x, LINES, kind);
        return x;
    }

    private static WokenBorder performed(WokenBorder x) {
        x.perform(0);
        return x;
    }

    private static WokenBorder swaps(WokenBorder x, int times) {
        for (int i = 0; i < times; i++) {
            x.swap(2, 3);
        }
        return x;
    }

    /** All that ACTS change, as one number. */
    private static long sceneOf(WokenBorder x) {
        long sum = x.rule(2) + 10L * x.count(11);
        for (int who = 0; who < 4; who++) {
            for (int what = 6; what <= 10; what++) {
                sum = 31 * sum + x.sleeper(who, what);
            }
            sum = 31 * sum + x.woken(who);
        }
        return sum;
    }

    private void latestSixty() {
        for (int borders : new int[] {0, 1, 59, 60, 61, 62}) {
            b.answers("LOG of " + borders, () -> Worlds.passed("p;o", borders), x -> x.count(11),
                    Math.min(60, borders));
        }
        b.answers("the oldest of 60", () -> firstByAnother(60), x -> x.log(59, 0), 1);
        b.answers("the oldest of 61", () -> firstByAnother(61), x -> x.log(59, 0), 0);
        b.refused("the 61st", () -> firstByAnother(61), x -> x.log(60, 0), NONE);
        b.answers("what fell off is there again", () -> Worlds.undone(firstByAnother(61), 1), x -> x.log(59, 0), 1);
        b.answers("forty that fell off, too", () -> Worlds.undone(firstByAnother(100), 40), x -> x.log(59, 0), 1);
        b.answers("OFFICER, TENS, LATE, SLEEP", () -> Worlds.passed("sa1;pt4;of1t0", 1), BoundActs::latest,
                71 * 100 + 8);
        b.answers("in time", () -> Worlds.passed("sa1;pt3;of1t0", 1), BoundActs::latest, 60 * 100 + 8);
    }

    private static WokenBorder firstByAnother(int borders) {
        WokenBorder x = Due.car("p;o;o");
        x.border(1);
        for (int i = 1; i < borders; i++) {
            x.border(0);
        }
        return x;
    }

    private static long latest(WokenBorder x) {
        return ((x.log(0, 0) * 100 + x.log(0, 1)) * 10 + x.log(0, 2)) * 100 + x.log(0, 3);
    }

    private void borders() {
        b.terms(16, "if the OFFICER looks at FACES, TENS for a FACE more, and if that one is ASLEEP, e TENS more, and "
                + "it is WOKEN (t as its turn begins) and awake", this::faces);
        b.terms(16, "what it LACKS is fetched meanwhile, from the end of its turn on: WAIT: 6 TENS for each MINUTE",
                this::waits);
        b.terms(16, "SAID 1: half of that, if the OFFICER looks at papers alone, else twice that", this::excuses);
        b.terms(16, "SAID 2: if a COFFEE is left, that is one less and the WAIT is 6 times k TENS less (0 at least), "
                + "else as with nothing.", this::coffees);
        b.terms(16, "It is over when all are stamped and all is fetched", this::overWhenAll);
        b.terms(16, "LATE: above 6 times ALLOWED.", this::lateAbove);
    }

    private void faces() {
        b.answers("papers alone", car("se9;pt1;of0t9"), x -> x.border(0) * 10 + x.count(7), 11);
        b.answers("FACES, ASLEEP", car("se9;pt1;of1t0"), x -> x.border(0) * 10 + x.count(7), 100);
        b.answers("FACES, awake", () -> Worlds.passed("se9;pt1;of1t0", 1), x -> x.border(0) * 10 + x.count(7), 10);
        b.answers("FACES of 9", () -> Worlds.passed("se9;pt1;of1t9", 1), x -> x.border(0), 10);
        b.answers("no longer, but WOKEN", car("se0;pt1;of1t0"), x -> x.border(0) * 10 + x.woken(0), 11);
        b.answers("awake: not WOKEN again", () -> Worlds.passed("p;of1", 2), x -> x.woken(0), 1);
        b.answers("a CHILD has no turn", car("pt1;pc1t9;of1t0"), x -> x.border(0) * 10 + x.count(7), 41);
        b.answers("the most there can be", car("se9;" + "pt9;".repeat(8) + "pt9l9;of1t9"),
                x -> x.say(8, 1) + x.border(0), 9 * 27 + 108);
    }

    private void waits() {
        for (int i : new int[] {0, 1, 9}) {
            b.answers("LACKS " + i, car("pt1l" + i + ";o"), x -> x.border(0), 1 + 6 * i);
        }
        b.answers("meanwhile", car("pt1l1;pt6;o"), x -> x.border(0), 7);
        b.answers("from the end of its turn on", car("pt6;pt1l1;o"), x -> x.border(0), 13);
        b.answers("nothing for a CHILD", car("pt1;pl9c1;o"), x -> x.border(0), 1);
    }

    private void excuses() {
        for (int i : new int[] {1, 2, 9}) {
            b.answers("papers alone, " + i, car("pt1l" + i + ";o"), x -> x.say(0, 1) + x.border(0), 1 + 3 * i);
            b.answers("FACES, " + i, car("se0;pt1l" + i + ";of1t0"), x -> x.say(0, 1) + x.border(0), 1 + 12 * i);
        }
        b.answers("no COFFEE is drunk", after(car("sc1;pl1;o"), x -> x.say(0, 1), x -> x.border(0)), x -> x.rule(2), 1);
    }

    private void coffees() {
        int[] fetched = {13, 7, 1, 1, 1};
        for (int i = 0; i <= 4; i++) {
            String car = "sc1;pt1l2;ok" + i;
            b.answers("worth " + i + " of 2", () -> asksForCoffee(car), x -> x.border(0), fetched[i]);
            b.answers("one less, worth " + i, after(() -> asksForCoffee(car), x -> x.border(0)), x -> x.rule(2), 0);
        }
        b.answers("none left", () -> asksForCoffee("sc0;pt1l2;ok2"), x -> x.border(0), 13);
        b.answers("no less than none", after(() -> asksForCoffee("sc0;pt1l2;ok2"), x -> x.border(0)), x -> x.rule(2),
                0);
        b.answers("a second BORDER", () -> asksForCoffee("sc1;pt1l2;ok2"), x -> x.border(0) * 100 + x.border(0), 113);
        b.answers("the last of nine", after(() -> asksForCoffee("sc9;pt1l2;ok2"), x -> borders(x, 8)), x -> x.border(0),
                1);
        b.answers("behind nine", after(() -> asksForCoffee("sc9;pt1l2;ok2"), x -> borders(x, 9)), x -> x.border(0), 13);
        b.answers("one for two, the first in the DRAWER", () -> bothAsk("sc1;pt1l2;pt1l1;ok2"), x -> x.border(0), 8);
        b.answers("two for two", () -> bothAsk("sc2;pt1l2;pt1l1;ok2"), x -> x.border(0), 2);
        b.answers("three for two", () -> bothAsk("sc3;pt1l2;pt1l1;ok2"), x -> x.border(0) * 10 + x.rule(2), 21);
    }

    private static WokenBorder asksForCoffee(String car) {
        WokenBorder x = Due.car(car);
        x.say(0, 2);
        return x;
    }

    private static WokenBorder bothAsk(String car) {
        WokenBorder x = asksForCoffee(car);
        x.say(1, 2);
        return x;
    }

    private static long borders(WokenBorder x, int times) {
        long sum = 0;
        for (int i = 0; i < times; i++) {
            sum += x.border(0);
        }
        return sum;
    }

    private void overWhenAll() {
        b.answers("fetched behind all stamps", car("pt1l1;pt5;o"), x -> x.border(0), 7);
        b.answers("fetched with the last stamp", car("pt1l1;pt6;o"), x -> x.border(0), 7);
        b.answers("fetched ahead of it", car("pt1l1;pt7;o"), x -> x.border(0), 8);
        b.answers("the later of two", car("pt1l1;pt1l2;o"), x -> x.border(0), 14);
        b.answers("the later of two", car("pt1l2;pt1l1;o"), x -> x.border(0), 13);
    }

    private void lateAbove() {
        for (int allowed : new int[] {1, 2, 9}) {
            int stamp = 6;
            String just = "sa" + allowed + ";pt" + stamp + "l" + (allowed - 1) + ";o";
            String above = "sa" + allowed + ";pt" + (stamp + 1) + "l" + (allowed - 1) + ";o";
            b.answers("TENS as ALLOWED " + allowed, car(just), x -> x.border(0), 6 * allowed);
            b.answers("not LATE at " + allowed, () -> Worlds.passed(just, 1), x -> x.log(0, 2), 0);
            b.answers("LATE above " + allowed, () -> Worlds.passed(above, 1), x -> x.log(0, 2), 1);
        }
    }

    private void promises11To16() {
        String move = "NONE: no such ones, a CHILD, it is there.";
        b.refusal(11, move, "no such ones", this::noSuchPaperOrPlace);
        b.refusal(11, move, "a CHILD", this::moveOfChild);
        b.refusal(11, move, "it is there", this::paperIsThere);
        String say = "NONE: no such ones, a CHILD, it LACKS nothing, it is so.";
        b.promise(12, "SAID (0 .. 2): what was SAID.", this::saidBounds);
        b.refusal(12, say, "no such ones", this::noSuchSaying);
        b.refusal(12, say, "a CHILD", this::sayForChild);
        b.refusal(12, say, "it LACKS nothing", this::sayForOneWhoLacksNothing);
        b.refusal(12, say, "it is so", this::saidAlready);
        String wake = "NONE: no such one, awake.";
        b.refusal(13, wake, "no such one", () -> noSuch("wake", NO_SLEEPERS, WokenBorder::wake, 2, 4));
        b.refusal(13, wake, "awake", this::wakeOneAwake);
        b.promise(14, "LIES down: how many are ASLEEP.", this::howManyAreAsleep);
        String lie = "NONE: no such one, ASLEEP.";
        b.refusal(14, lie, "no such one", () -> noSuch("lie", NO_SLEEPERS, WokenBorder::lie, 1, 3));
        b.refusal(14, lie, "ASLEEP", this::lieOfOneAsleep);
        b.promise(15, "They SWAP: how many ACTS can be UNDONE.", this::swapsUpToForty);
        String swap = "NONE: no such ones, alike.";
        b.refusal(15, swap, "no such ones", this::swapOfNobody);
        b.refusal(15, swap, "alike", this::swapWithItself);
        b.refusal(16, "NONE: no such OFFICER.", "no such OFFICER",
                () -> noSuch("border", NO_OFFICERS, WokenBorder::border, 1, 23));
    }

    /** Refused for none of those, and without a CAR; answered for one that is there. */
    private void noSuch(String call, int[] none, Asked asked, int there, int want) {
        for (int one : none) {
            b.refused(call + "(" + one + ")", Worlds::lived, x -> asked.ask(x, one), NONE);
        }
        withoutCar(call + "(" + there + ")", x -> asked.ask(x, there), NONE, Worlds::lived, want);
    }

    private void noSuchPaperOrPlace() {
        b.answers("move(3, 2)", Worlds::lived, x -> x.move(3, 2), 0);
        b.answers("move(1, 0)", Worlds::lived, x -> x.move(1, 0), 2);
        for (int who : NO_SLEEPERS) {
            b.refused("move(" + who + ", 0)", Worlds::lived, x -> x.move(who, 0), NONE);
        }
        for (int place : new int[] {-1, 3, 4, 9, LEAST, MOST}) {
            b.refused("move(0, " + place + ")", Worlds::lived, x -> x.move(0, place), NONE);
        }
        b.refused("move(0, 1) without a CAR", Worlds::shelf, x -> x.move(0, 1), NONE);
        b.answers("move(8, 0) of nine", car(NINE), x -> x.move(8, 0), 8);
        b.refused("move(0, 9) of nine", car(NINE), x -> x.move(0, 9), NONE);
    }

    private void moveOfChild() {
        for (int place = -1; place <= 3; place++) {
            int to = place;
            b.refused("move(2, " + to + ")", Worlds::lived, x -> x.move(2, to), NONE);
        }
        b.refused("the only CHILD, ahead of all", car("pc1;p;p;o"), x -> x.move(0, 1), NONE);
        b.answers("one who is no CHILD", car("pc0;p;p;o"), x -> x.move(0, 1), 0);
    }

    private void paperIsThere() {
        int[] places = {1, 2, NONE, 0};
        for (int i : new int[] {0, 1, 3}) {
            b.refused("move(" + i + ", " + places[i] + ")", Worlds::lived, x -> x.move(i, places[i]), NONE);
        }
        b.answers("one place on", Worlds::lived, x -> x.move(0, 2), 1);
        b.answers("one place back", Worlds::lived, x -> x.move(0, 0), 1);
    }

    private void saidBounds() {
        b.answers("0", Worlds::lived, x -> x.say(0, 0), 2);
        b.answers("1", Worlds::lived, x -> x.say(0, 1), 2);
        b.answers("2", Worlds::lived, x -> x.say(3, 2), 0);
        b.refused("-1", Worlds::lived, x -> x.say(0, -1), NONE);
        b.refused("3", Worlds::lived, x -> x.say(0, 3), NONE);
    }

    private void noSuchSaying() {
        b.answers("say(3, 1)", Worlds::lived, x -> x.say(3, 1), 0);
        for (int who : NO_SLEEPERS) {
            b.refused("say(" + who + ", 1)", Worlds::lived, x -> x.say(who, 1), NONE);
        }
        for (int what : new int[] {-1, 3, LEAST, MOST}) {
            b.refused("say(3, " + what + ")", Worlds::lived, x -> x.say(3, what), NONE);
        }
        b.refused("say(0, 1) without a CAR", Worlds::shelf, x -> x.say(0, 1), NONE);
    }

    private void sayForChild() {
        for (int what = 0; what <= 2; what++) {
            int said = what;
            b.refused("say(2, " + said + ")", Worlds::lived, x -> x.say(2, said), NONE);
        }
        b.answers("one who is no CHILD", car("pl5c0;o"), x -> x.say(0, 1), 0);
    }

    private void sayForOneWhoLacksNothing() {
        for (int what = 0; what <= 2; what++) {
            int said = what;
            b.refused("say(1, " + said + ")", Worlds::lived, x -> x.say(1, said), NONE);
        }
        b.answers("one who LACKS 1", Worlds::lived, x -> x.say(3, 1), 0);
    }

    private void saidAlready() {
        b.refused("a COFFEE", Worlds::lived, x -> x.say(0, 2), NONE);
        b.refused("nothing", Worlds::lived, x -> x.say(3, 0), NONE);
        b.refused("an excuse", () -> excused(), x -> x.say(3, 1), NONE);
        b.answers("another thing", () -> excused(), x -> x.say(3, 2), 1);
    }

    private static WokenBorder excused() {
        WokenBorder x = Worlds.lived();
        x.say(3, 1);
        return x;
    }

    private void wakeOneAwake() {
        for (int who : new int[] {0, 1}) {
            b.refused("wake(" + who + ")", Worlds::lived, x -> x.wake(who), NONE);
        }
        for (int who : new int[] {2, 3}) {
            b.answers("wake(" + who + ")", Worlds::lived, x -> bit(x.wake(who) > 0), 1);
        }
    }

    private void howManyAreAsleep() {
        b.answers("the only one", after(car("p;o"), x -> x.wake(0)), x -> x.lie(0), 1);
        b.answers("all nine", after(car(NINE), x -> x.wake(8)), x -> x.lie(8), 9);
        b.answers("one of two", after(car("p;p;o"), x -> x.wake(0), x -> x.wake(1)), x -> x.lie(0), 1);
    }

    private void lieOfOneAsleep() {
        for (int who : new int[] {2, 3}) {
            b.refused("lie(" + who + ")", Worlds::lived, x -> x.lie(who), NONE);
        }
        for (int who : new int[] {0, 1}) {
            b.answers("lie(" + who + ")", Worlds::lived, x -> x.lie(who), 3);
        }
        b.answers("the last who was awake", after(Worlds::lived, x -> x.lie(0)), x -> x.lie(1), 4);
    }

    private void swapsUpToForty() {
        b.answers("the first", () -> Worlds.swapped(0), x -> x.swap(0, 1), 1);
        b.answers("the 40th", () -> Worlds.swapped(39), x -> x.swap(0, 1), 40);
        b.answers("the 41st", () -> Worlds.swapped(40), x -> x.swap(0, 1), 40);
        b.answers("the last two of nine", car(NINE), x -> x.swap(8, 7) + x.sleeper(8, 6), 8);
    }

    private void swapOfNobody() {
        b.answers("swap(0, 3)", Worlds::lived, x -> x.swap(0, 3), 7);
        for (int who : NO_SLEEPERS) {
            b.refused("swap(0, " + who + ")", Worlds::lived, x -> x.swap(0, who), NONE);
            b.refused("swap(" + who + ", 0)", Worlds::lived, x -> x.swap(who, 0), NONE);
            b.refused("swap(" + who + ", " + who + ")", Worlds::lived, x -> x.swap(who, who), NONE);
        }
        b.refused("swap(0, 1) without a CAR", Worlds::shelf, x -> x.swap(0, 1), NONE);
    }

    private void swapWithItself() {
        for (int i = 0; i < 4; i++) {
            int who = i;
            b.refused("swap(" + who + ", " + who + ")", Worlds::lived, x -> x.swap(who, who), NONE);
        }
        b.answers("a twin, but another one", car("p;p;o"), x -> x.swap(0, 1), 1);
    }
}
