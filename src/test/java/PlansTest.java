/** Promises 23 to 33. */
final class PlansTest {
    private static final Due DUE = new Due();
    private static final int NONE = WokenBorder.NONE;
    private static final int HIDDEN = WokenBorder.HIDDEN;
    private static final String CAR = "sa2g20c1e3;pt2l2n3s4;pt3n6s1;pt1l5c1;pt4l1;ow2f0k2;ow1f1t1k1";

    public static void main(String[] args) {
        promise23Time();
        promise24Order();
        promise24OrderWithCoffees();
        promise25Bound();
        promise26Before();
        promise26BeforeWithCoffees();
        promise26BeforeByLaw();
        promise27Words();
        promise27WordsOfSeveralOfficers();
        promise28Tonight();
        promise29Hear();
        promise30LookAt();
        promise31Fit();
        promise32Best();
        promise33Heads();
        DUE.finish("PlansTest");
    }

    private static void promise23Time() {
        WokenBorder x = Due.car(CAR);
        DUE.due("23: TENS, papers alone", x.time(0, 0), 15);
        DUE.due("23: SLEEP, papers alone", x.time(0, 1), 0);
        DUE.due("23: TENS, FACES", x.time(1, 0), 27);
        DUE.due("23: SLEEP, FACES", x.time(1, 1), 27);
        x.say(0, 2);
        DUE.due("23: with a COFFEE", x.time(0, 0), 15);
        x.wake(0);
        DUE.due("23: as it is now", x.time(1, 0), 24);
        DUE.due("23: as it is now", x.time(1, 1), 19);
        DUE.due("23: nothing happens", x.count(7) * 100 + x.rule(2) * 10 + x.count(11), 310);
        int[][] refused = {{2, 0}, {-1, 0}, {0, 2}, {0, -1}};
        for (int[] ask : refused) {
            DUE.due("23: refused time", x.time(ask[0], ask[1]), NONE);
        }
    }

    private static void promise24Order() {
        // Who LACKS most goes first: 3 (18), then 1 (12), then 2 (6), 0 last.
        WokenBorder x = Due.car("pt1;pt1l2;pt1l1;pt1l3;o");
        DUE.due("24: as they lie", x.time(0, 0), 22);
        DUE.due("24: TENS", x.order(0, 1), 19);
        // 3 first is over at 19; behind it all that are in time are free, so the least digits.
        DUE.due("24: the least as digits", x.order(0, 0), 3012);
        DUE.due("24: it moves nothing", Due.drawer(x), 123);
        x = Due.car("p;p;pc1;p;o");
        DUE.due("24: all alike", x.order(0, 0), 13);
        DUE.due("24: a CHILD has no PAPER", x.order(0, 1), 6);
        int[][] refused = {{1, 0}, {-1, 0}, {0, 2}, {0, -1}};
        for (int[] ask : refused) {
            DUE.due("24: refused order", x.order(ask[0], ask[1]), NONE);
        }
        x = Due.car("p;p;p;p;p;p;p;pc1;pc1;o");
        DUE.due("24: seven PAPERS", x.order(0, 0), 123456);
        x = Due.car("p;p;p;p;p;p;p;p;o");
        DUE.due("24: eight PAPERS", x.order(0, 0), HIDDEN);
        DUE.due("24: eight PAPERS", x.order(0, 1), HIDDEN);
        DUE.due("24: no such OFFICER", x.order(1, 0), NONE);
        DUE.due("24: no such what", x.order(0, 2), NONE);
        // Who is ASLEEP takes longer under an OFFICER who looks at FACES.
        x = Due.car("se9;pt1;pt1l2;of1t0");
        DUE.due("24: 1 first: 10 and 12", x.order(0, 0) * 100 + x.order(0, 1), 1022);
        x.wake(1);
        DUE.due("24: 1 first: 1 and 12", x.order(0, 0) * 100 + x.order(0, 1), 1013);
        x.wake(0);
        DUE.due("24: all awake", x.order(0, 0) * 100 + x.order(0, 1), 1013);
    }

    private static void promise24OrderWithCoffees() {
        // One COFFEE for two who ask: it is best spent on 1 (18), who must be first of the two.
        WokenBorder x = Due.car("sc1;pt1l2;pt1l3;ok3");
        x.say(0, 2);
        x.say(1, 2);
        DUE.due("24: 0 drinks it as they lie", x.time(0, 0), 20);
        DUE.due("24: 1 is to drink it", x.order(0, 0), 10);
        DUE.due("24: TENS", x.order(0, 1), 14);
    }

    private static void promise25Bound() {
        WokenBorder x = Due.car(CAR);
        DUE.due("25: stamps 9, own 2 and 12", x.bound(0), 14);
        DUE.due("25: stamps and FACES 21, own 6 and 12", x.bound(1), 21);
        x.wake(0);
        x.wake(1);
        x.wake(3);
        DUE.due("25: stamps and FACES 12, own 3 and 12", x.bound(1), 15);
        x.say(0, 1);
        DUE.due("25: twice as long", x.bound(1), 27);
        DUE.due("25: half as long, own 4 and 6", x.bound(0), 10);
        x.say(0, 2);
        x.say(3, 2);
        DUE.due("25: as if a COFFEE were there for each", x.bound(0), 9);
        x.border(0);
        DUE.due("25: even if none is left", x.bound(0), 9);
        DUE.due("25: no such OFFICER", x.bound(2), NONE);
        DUE.due("25: no such OFFICER", x.bound(-1), NONE);
    }

    private static void before(String car, String law, int set, int sleep) {
        WokenBorder x = Due.car(car);
        if (!law.isEmpty()) {
            Due.tell(x, 1, law);
            x.law(0);
        }
        DUE.due("26: set for " + car + " by " + law, x.before(0), set);
        DUE.due("26: SLEEP for " + car + " by " + law, x.before(1), sleep);
        DUE.due("26: nobody is WOKEN", x.count(7), x.count(0));
    }

    private static void promise26Before() {
        before("sa60e9;pt1n9;pt1n0;of1t0", "", 0, 19);
        before("sa1e9;pt1n9;pt1n0;of1t0", "", 3, 19);
        before("sa2e9;pt1n9;pt1n0;of1t0", "", 1, 19);
        before("sa1e9;pt7n9;of1t0", "", NONE, NONE);
        before("sa1e9;pt7n9;of1t0w0", "", 0, 0);
        before("sa1e9;pt7n9;of1t0w0;ow5", "", NONE, NONE);
        before("sa60e9;pt1n9;pt1n0;of1t0w2;ow3", "", 0, 38);
        before("sa1e9;pt1n9;pt1n0;pc1;of1t0w2;ow3", "", 3, 95);
        WokenBorder x = new WokenBorder();
        DUE.due("26: no CAR", x.before(0), NONE);
        x = Due.car("sa60e9;pt1n9;pt1n0;of1t0");
        DUE.due("26: no such what", x.before(2), NONE);
        DUE.due("26: no such what", x.before(-1), NONE);
        x.wake(0);
        DUE.due("26: who is awake loses nothing", x.before(1), 5);
    }

    /** Both ask for a COFFEE; without one the second is fetched at 8, and 6 are ALLOWED. */
    private static void beforeWithCoffees(int coffees, int set) {
        WokenBorder x = Due.car("sa1e0c" + coffees + ";pt1l1;pt1l1;ok1");
        x.say(0, 2);
        x.say(1, 2);
        DUE.due("26: with COFFEES " + coffees, x.before(0), set);
        x.say(0, 0);
        DUE.due("26: the first asks for none, and is fetched at 7", x.before(0), NONE);
    }

    private static void promise26BeforeWithCoffees() {
        beforeWithCoffees(0, NONE);
        beforeWithCoffees(1, NONE);
        beforeWithCoffees(2, 0);
        beforeWithCoffees(3, 0);
    }

    private static void promise26BeforeByLaw() {
        before("sa2e9;pt1n9;pt1n0;of1t0", "y:o*n", 2, 0);
        before("sa1e9;pt1n9;pt1n1;of1t0", "y:o*n", 3, 90);
        // By hand t is 0; at the BORDER the second loses 10, or 1 if the first is awake by then.
        before("sa60e9;pt1n9;pt1n0;of1t0w2;ow3", "y:t", 2, 0);
        before("sa60e9;pt1;pt1;of1t0w2;ow3", "y:o=9?4;y:t", 0, 20);
        before("sa60e9;pt1;pt1;of1t0w2", "y:o=9?1;y:t", 2, 2);
        before("sa60e9;pt1;pt1;of1t0w2;ow9", "y:o=9?1;y:t", 1 << 1, 11);
    }

    private static void words(String car, int digits, int tens) {
        WokenBorder x = Due.car(car);
        DUE.due("27: digits for " + car, x.words(0), digits);
        DUE.due("27: TENS for " + car, x.words(1), tens);
    }

    private static void promise27Words() {
        words("sc1;pt1l2;pt1l3;ok3", 12, 7);
        words("sc2;pt1l2;pt1l3;ok3", 22, 2);
        words("sc0;pt1l2;pt1l3;ok3", 11, 11);
        words("sc0;pt1l2;pt1l3;of1t0", 0, 26);
        words("sc9;pt1l2;pt1l3;ok0", 11, 11);
        words("sc9;pt1l2;pt1l3;ow0", 0, 0);
        words("sc9;p;pt1l2;pl9c1;pt1l3;ok3", 22, 4);
        words("sc9;pt9;pt9l1;pt9;o", 0, 27);
        WokenBorder x = new WokenBorder();
        DUE.due("27: no CAR", x.words(0), NONE);
        x = Due.car("p;pl9c1;o");
        DUE.due("27: nobody with a PAPER LACKS anything", x.words(0), NONE);
        DUE.due("27: nobody with a PAPER LACKS anything", x.words(1), NONE);
        x = Due.car("sc1;pt1l2;pt1l3;ok3");
        DUE.due("27: no such what", x.words(2), NONE);
        DUE.due("27: no such what", x.words(-1), NONE);
        x.say(0, 2);
        x.border(0);
        DUE.due("27: by the COFFEES that are left", x.words(0), 11);
        x.move(1, 0);
        DUE.due("27: by the DRAWER as it is", x.words(1), 10);
    }

    private static void promise27WordsOfSeveralOfficers() {
        // One LACKS 2: papers alone 14, 8, 2 and FACES 14, 26, 8 (nothing, an excuse, a COFFEE), stamps 2.
        words("sc0e0;pt2l2;ow1k2;ow1f1t0k1", 0, 28);
        words("sc0e0;pt2l2;ow3k2;ow1f1t0k1", 1, 50);
        words("sc0e0;pt2l2;ow2k2;ow1f1t0k1", 0, 42);
        words("sc1e0;pt2l2;ow1k2;ow1f1t0k1", 2, 10);
    }

    private static void promise28Tonight() {
        WokenBorder x = Due.car("pt2l1;ow1;ow2f1;ow0f1;ow4f1t9");
        int[] want = {142857, 285714, 0, 571428};
        for (int o = 0; o < 4; o++) {
            DUE.due("28: tonight(" + o + ")", x.tonight(o), want[o]);
        }
        DUE.due("28: no such OFFICER", x.tonight(4), NONE);
        DUE.due("28: no such OFFICER", x.tonight(-1), NONE);
        x.hear(true, 0);
        int[] faces = {0, 333333, 0, 666666};
        for (int o = 0; o < 4; o++) {
            DUE.due("28: HEARD of FACES, tonight(" + o + ")", x.tonight(o), faces[o]);
        }
        x.hear(true, x.time(1, 0));
        DUE.due("28: at least as long as this", x.tonight(1), 333333);
        x.hear(true, x.time(1, 0) + 1);
        DUE.due("28: longer than this one's", x.tonight(1), 0);
        DUE.due("28: the other alone", x.tonight(3), 1000000);
        x.hear(false, 0);
        DUE.due("28: nobody could be", x.tonight(3), 0);
        x = Due.car("p;ow0;ow0");
        DUE.due("28: WEIGHTS 0", x.tonight(1), 0);
        x = Due.car("p;ow0;ow3f1");
        x.hear(false, 0);
        DUE.due("28: WEIGHT 0 of those who could be", x.tonight(0), 0);
        x = Due.car("p;of1;o");
        x.hear(true, 6);
        DUE.due("28: TIME while it is ASLEEP", x.tonight(0), 1000000);
        x.wake(0);
        DUE.due("28: TIME as now", x.tonight(0), 0);
    }

    private static void promise29Hear() {
        WokenBorder x = new WokenBorder();
        DUE.due("29: no CAR", x.hear(true, 1), NONE);
        x = Due.car("p;o");
        DUE.due("29: -1", x.hear(true, -1), NONE);
        DUE.due("29: 1000", x.hear(true, 1000), NONE);
        for (int i = 1; i <= 8; i++) {
            DUE.due("29: how many", x.hear(i % 2 == 0, i == 1 ? 0 : 999), i);
        }
        DUE.due("29: there are eight", x.hear(true, 1), NONE);
        DUE.due("29: HEARD", x.count(9), 8);
        DUE.due("29: it is no ACT", x.undo(), NONE);
    }

    private static void promise30LookAt() {
        WokenBorder x = new WokenBorder();
        DUE.due("30: no CAR", x.lookAt(0, true), NONE);
        x = Due.car("p;p;o");
        DUE.due("30: no such BERTH", x.lookAt(2, true), NONE);
        DUE.due("30: no such BERTH", x.lookAt(-1, true), NONE);
        for (int i = 1; i <= 10; i++) {
            DUE.due("30: how many", x.lookAt(i % 2, true), i);
        }
        DUE.due("30: there are ten", x.lookAt(0, true), NONE);
        DUE.due("30: LOOKS", x.count(10), 10);
    }

    private static void promise31Fit() {
        WokenBorder x = new WokenBorder();
        DUE.due("31: no CAR", x.fit(NONE), NONE);
        x = Due.car("pf1;pf2;pf1;pf3c1;o");
        int[] ways = {0, 102, 104, 113, 114, 124};
        DUE.due("31: how many", x.fit(NONE), 6);
        for (int i = 0; i < 6; i++) {
            DUE.due("31: fit(" + i + ")", x.fit(i), ways[i]);
        }
        DUE.due("31: no such one", x.fit(6), NONE);
        DUE.due("31: no such one", x.fit(-2), NONE);
        x.swap(0, 1);
        x.lookAt(1, false);
        int[] behind = {102, 113, 114};
        DUE.due("31: BERTHS as told at first", x.fit(NONE), 3);
        for (int i = 0; i < 3; i++) {
            DUE.due("31: behind a LOOK, fit(" + i + ")", x.fit(i), behind[i]);
        }
        x.lookAt(3, true);
        DUE.due("31: one more LOOK", x.fit(NONE), 2);
        x.lookAt(3, false);
        DUE.due("31: no way", x.fit(NONE), 0);
        DUE.due("31: no way", x.fit(0), NONE);
    }

    private static void promise32Best() {
        WokenBorder x = new WokenBorder();
        DUE.due("32: no CAR", x.best(), NONE);
        // Ways: none, 0-1, 0-3, 1-2, 1-3, 2-3: no at 0 two, at 1 three, at 2 two, at 3 three of six.
        x = Due.car("pf1;pf2;pf1;pf3;o");
        DUE.due("32: three and three, the lowest such", x.best(), 1);
        x.lookAt(1, true);
        // None, 0-3, 2-3: no at 0 one, at 2 one, at 3 two of three.
        DUE.due("32: the lowest of several", x.best(), 0);
        x.lookAt(3, false);
        DUE.due("32: one and one", x.best(), 0);
        x.lookAt(0, true);
        DUE.due("32: one way alone: all alike", x.best(), 0);
        x.lookAt(2, true);
        DUE.due("32: no way fits", x.best(), NONE);
    }

    private static void promise33Heads() {
        WokenBorder x = new WokenBorder();
        DUE.due("33: no CAR", x.heads(1, NONE), NONE);
        x = Due.car("p;pc1;pc1;p;pc1;o");
        int[] many = {0, 0, 1, 3, 3, 1, 0, 0, 0, 0};
        for (int n = 0; n <= 9; n++) {
            DUE.due("33: heads(" + n + ", -1)", x.heads(n, NONE), many[n]);
            DUE.due("33: one behind the last", x.heads(n, many[n]), NONE);
        }
        int[] three = {2, 4, 16};
        int[] four = {6, 18, 20};
        for (int i = 0; i < 3; i++) {
            DUE.due("33: heads(3, " + i + ")", x.heads(3, i), three[i]);
            DUE.due("33: heads(4, " + i + ")", x.heads(4, i), four[i]);
        }
        DUE.due("33: no CHILD", x.heads(2, 0), 0);
        DUE.due("33: all", x.heads(5, 0), 22);
        DUE.due("33: no such one", x.heads(3, -2), NONE);
        DUE.due("33: out of bounds", x.heads(10, NONE), NONE);
        DUE.due("33: out of bounds", x.heads(-1, NONE), NONE);
    }
}
