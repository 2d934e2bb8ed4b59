/** Promises 11 to 22. */
final class ActsTest {
    private static final Due DUE = new Due();
    private static final int NONE = WokenBorder.NONE;
    private static final int HIDDEN = WokenBorder.HIDDEN;
    private static final String CAR = "sa2g20c1e3;pt2l2n3s4;pt3n6s1;pt1l5c1;pt4l1;ow2f0k2;ow1f1t1k1";

    public static void main(String[] args) {
        promise11Move();
        promise12Say();
        promise13Wake();
        promise14Lie();
        promise15Swap();
        promise16Border();
        promise16WaitsAndCoffees();
        promise16LawAtBorder();
        promise17Nights();
        promise17WhoLiesDown();
        promise18Undo();
        promise18UndoOfTheLog();
        promise19Log();
        promise20Step();
        promise21Run();
        promise22Perform();
        DUE.finish("ActsTest");
    }

    private static void promise11Move() {
        WokenBorder x = Due.car(CAR);
        DUE.due("11: at first by numbers", Due.drawer(x), 13);
        DUE.due("11: to the front", x.move(3, 0), 2);
        DUE.due("11: those between go one on", Due.drawer(x), 301);
        DUE.due("11: to the end", x.move(3, 2), 0);
        DUE.due("11: those between go one back", Due.drawer(x), 13);
        DUE.due("11: by one", x.move(0, 1), 0);
        DUE.due("11: by one", Due.drawer(x), 103);
        int[][] refused = {{2, 0}, {0, 1}, {0, 3}, {0, -1}, {4, 0}, {-1, 0}, {Integer.MAX_VALUE, 0},
            {0, Integer.MIN_VALUE}};
        for (int[] ask : refused) {
            DUE.due("11: refused move(" + ask[0] + ", " + ask[1] + ")", x.move(ask[0], ask[1]), NONE);
        }
        DUE.due("11: refused ones change nothing", Due.drawer(x) * 100 + x.count(12), 10303);
    }

    private static void promise12Say() {
        WokenBorder x = Due.car(CAR);
        DUE.due("12: an excuse", x.say(0, 1), 0);
        DUE.due("12: a COFFEE", x.say(0, 2), 1);
        DUE.due("12: it is so", x.say(0, 2), NONE);
        DUE.due("12: nothing is so at first", x.say(3, 0), NONE);
        DUE.due("12: nothing again", x.say(0, 0), 2);
        int[][] refused = {{0, 3}, {0, -1}, {1, 1}, {2, 1}, {4, 1}, {-1, 1}};
        for (int[] ask : refused) {
            DUE.due("12: refused say(" + ask[0] + ", " + ask[1] + ")", x.say(ask[0], ask[1]), NONE);
        }
        DUE.due("12: refused ones are no ACTS", x.count(12), 3);
        DUE.due("12: COFFEES are not drunk by saying", x.rule(2), 1);
    }

    private static void promise13Wake() {
        WokenBorder x = Due.car(CAR);
        DUE.due("13: NERVES and 5", x.wake(1), 11);
        DUE.due("13: awake", x.wake(1), NONE);
        DUE.due("13: a CHILD, too", x.wake(2), 8);
        DUE.due("13: no such one", x.wake(4), NONE);
        DUE.due("13: no such one", x.wake(-1), NONE);
        for (int i = 1; i <= 18; i++) {
            x.lie(1);
            DUE.due("13: 5 more each time, 99 at most", x.wake(1), Math.min(99, 11 + 5 * i));
        }
        DUE.due("13: ACTS", x.count(12), 38);
        DUE.due("13: how often", x.woken(1), 19);
    }

    private static void promise14Lie() {
        WokenBorder x = Due.car(CAR);
        DUE.due("14: ASLEEP", x.lie(0), NONE);
        x.wake(0);
        x.wake(3);
        DUE.due("14: how many are ASLEEP", x.lie(0), 3);
        DUE.due("14: it is ASLEEP", Due.sleeper(x, 0, 9), 1);
        DUE.due("14: it loses nothing", Due.sleeper(x, 0, 10), 8);
        DUE.due("14: no such one", x.lie(4), NONE);
        DUE.due("14: no such one", x.lie(-1), NONE);
        DUE.due("14: ACTS", x.count(12), 3);
    }

    private static void promise15Swap() {
        WokenBorder x = Due.car(CAR);
        DUE.due("15: how many can be UNDONE", x.swap(0, 2), 1);
        DUE.due("15: BERTH", Due.sleeper(x, 0, 6), 2);
        DUE.due("15: BERTH", Due.sleeper(x, 2, 6), 0);
        DUE.due("15: twice", x.swap(2, 1), 2);
        DUE.due("15: BERTH", Due.sleeper(x, 2, 6), 1);
        int[][] refused = {{0, 0}, {0, 4}, {4, 0}, {-1, 0}, {0, -1}, {4, 4}};
        for (int[] ask : refused) {
            DUE.due("15: refused swap(" + ask[0] + ", " + ask[1] + ")", x.swap(ask[0], ask[1]), NONE);
        }
        for (int i = 3; i <= 45; i++) {
            DUE.due("15: 40 at most", x.swap(0, 1), Math.min(40, i));
        }
    }

    private static void promise16Border() {
        WokenBorder x = Due.car(CAR);
        DUE.due("16: papers alone", x.border(0), 15);
        DUE.due("16: nobody WOKEN", x.count(7), 4);
        DUE.due("16: LATE", x.log(0, 2), 1);
        DUE.due("16: looks at FACES", x.border(1), 27);
        DUE.due("16: SLEEP lost", x.log(0, 3), 27);
        DUE.due("16: all but the CHILD are awake", x.count(7), 1);
        DUE.due("16: the CHILD sleeps", Due.sleeper(x, 2, 9), 1);
        DUE.due("16: SLEEP lost by one", Due.sleeper(x, 1, 10), 11);
        DUE.due("16: those who are awake take no longer", x.border(1), 18);
        DUE.due("16: and lose nothing", x.log(0, 3), 0);
        x.lie(1);
        DUE.due("16: one takes longer", x.border(1), 21);
        DUE.due("16: it was WOKEN before", x.log(0, 3), 16);
        DUE.due("16: no such OFFICER", x.border(2), NONE);
        DUE.due("16: no such OFFICER", x.border(-1), NONE);
        DUE.due("16: ACTS", x.count(12), 5);
        DUE.due("16: LOG", x.count(11), 4);
    }

    private static void promise16WaitsAndCoffees() {
        WokenBorder x = Due.car(CAR);
        x.say(0, 1);
        x.say(3, 1);
        DUE.due("16: half by papers alone", x.border(0), 12);
        DUE.due("16: as much as is ALLOWED is not LATE", x.log(0, 2), 0);
        x.wake(0);
        x.wake(1);
        x.wake(3);
        DUE.due("16: twice by FACES", x.border(1), 27);
        x.say(0, 2);
        x.say(3, 2);
        DUE.due("16: one COFFEE, for the first in the DRAWER", x.border(0), 15);
        DUE.due("16: none left", x.rule(2), 0);
        DUE.due("16: then as with nothing", x.border(0), 15);
        DUE.due("16: as with nothing for both", x.time(0, 0), 15);
        x.undo();
        x.undo();
        x.move(3, 0);
        DUE.due("16: the COFFEE is the other one's now, worth more than its WAIT", x.border(0), 18);
        DUE.due("16: it is drunk all the same", x.rule(2), 0);
    }

    private static void promise16LawAtBorder() {
        WokenBorder x = Due.car(CAR);
        Due.tell(x, 1, "y:t+1");
        Due.tell(x, 1, "y:10*o+w");
        Due.tell(x, 1, "y:s*10+c");
        x.law(0);
        x.border(1);
        DUE.due("16: t as its turn begins", Due.sleeper(x, 0, 10), 1);
        DUE.due("16: t as its turn begins", Due.sleeper(x, 1, 10), 7);
        DUE.due("16: t as its turn begins", Due.sleeper(x, 3, 10), 14);
        x.lie(0);
        x.law(1);
        x.border(1);
        DUE.due("16: the OFFICER, WOKEN once before", x.log(0, 3), 11);
        x.law(2);
        x.lie(0);
        x.lie(1);
        x.lie(3);
        DUE.due("16: SNORES of both beside it", x.time(1, 1), 10 + 40 + 0);
        x.swap(1, 3);
        DUE.due("16: others beside it now", x.time(1, 1), 0 + 0 + 40);
        DUE.due("16: by hand, a CHILD between 3 and 1", x.wake(2), 11);
    }

    private static void promise17Nights() {
        long[] seeds = {7, 0, -1, 123456789012345L};
        int[][] want = OFFICERS_BY_SEED;
        for (int k = 0; k < seeds.length; k++) {
            WokenBorder x = Due.car("p;ow1;ow0;ow3");
            DUE.due("17: nights(6)", x.nights(6, seeds[k]), 6);
            for (int night = 0; night < 6; night++) {
                DUE.due("17: OFFICER of night " + night, x.log(5 - night, 0), want[k][night]);
            }
            DUE.due("17: ACTS", x.count(12), 6);
        }
        WokenBorder x = new WokenBorder();
        DUE.due("17: no CAR", x.nights(1, 1), NONE);
        DUE.due("17: one night", Due.car("p;o").nights(1, 1), 1);
        x = Due.car("p;ow0;ow0");
        DUE.due("17: no night", x.nights(0, 1), NONE);
        DUE.due("17: too many", x.nights(21, 1), NONE);
        DUE.due("17: twenty", x.nights(20, 1), 20);
        DUE.due("17: OFFICER 0 if all WEIGHTS are 0", x.log(7, 0), 0);
        x.nights(20, 2);
        DUE.due("17: sixty", x.nights(20, 3), 60);
        DUE.due("17: no more than sixty", x.nights(20, 4), 60);
        DUE.due("17: forty ACTS at most", x.count(12), 40);
    }

    // By (x >>> 33) % 4 of the document's draws: below 1 it is OFFICER 0, else OFFICER 2.
    private static final int[][] OFFICERS_BY_SEED = {
        {2, 2, 2, 2, 2, 2}, {2, 0, 2, 0, 2, 2}, {0, 2, 2, 2, 0, 2}, {2, 2, 2, 2, 0, 2}};

    private static void promise17WhoLiesDown() {
        long[] seeds = {7, 0, -1};
        int[][] want = ASLEEP_BY_SEED;
        for (int k = 0; k < seeds.length; k++) {
            WokenBorder x = Due.car("p;p;pc1;ow2f1");
            x.nights(3, seeds[k]);
            for (int night = 2; night >= 0; night--) {
                int asleep = 0;
                for (int who = 0; who < 3; who++) {
                    asleep = 10 * asleep + Due.sleeper(x, who, 9);
                }
                DUE.due("17: who is ASLEEP behind night " + night, asleep, want[k][night]);
                DUE.due("17: one ACT each", x.undo(), night);
            }
            DUE.due("17: all UNDONE", x.count(7), 3);
        }
        WokenBorder x = Due.car("p;p;pc1;ow2f1");
        x.drowsy(0);
        x.wake(2);
        x.nights(2, 5);
        DUE.due("17: none LIES down with DROWSY 0", x.count(7), 0);
    }

    // Each night one draw for the OFFICER, then one for each who is awake; digits by SLEEPERS.
    private static final int[][] ASLEEP_BY_SEED = {{101, 111, 11}, {111, 101, 1}, {101, 1, 111}};

    private static void promise18Undo() {
        WokenBorder x = Due.car(CAR);
        x.move(3, 0);
        x.say(0, 2);
        x.wake(2);
        x.lie(2);
        x.swap(0, 1);
        x.border(1);
        DUE.due("18: the BORDER", x.undo(), 5);
        DUE.due("18: its LOG", x.count(11), 0);
        DUE.due("18: its COFFEE", x.rule(2), 1);
        DUE.due("18: its WOKEN ones", x.woken(0) * 100 + x.count(7) * 10 + Due.sleeper(x, 0, 10), 40);
        DUE.due("18: the SWAP", x.undo(), 4);
        DUE.due("18: BERTH", Due.sleeper(x, 0, 6), 0);
        DUE.due("18: lying down", x.undo(), 3);
        DUE.due("18: awake again", Due.sleeper(x, 2, 9), 0);
        DUE.due("18: waking", x.undo(), 2);
        DUE.due("18: nothing lost", x.count(13), 0);
        DUE.due("18: what was SAID", x.undo(), 1);
        DUE.due("18: nothing SAID", Due.sleeper(x, 0, 8), 0);
        DUE.due("18: the move", x.undo(), 0);
        DUE.due("18: DRAWER", Due.drawer(x), 13);
        DUE.due("18: none", x.undo(), NONE);
        for (int i = 0; i < 45; i++) {
            x.swap(0, 1);
        }
        for (int i = 39; i >= 0; i--) {
            DUE.due("18: the latest 40", x.undo(), i);
        }
        DUE.due("18: no more than these", x.undo(), NONE);
        DUE.due("18: five SWAPS stay", Due.sleeper(x, 0, 6), 1);
    }

    private static void promise18UndoOfTheLog() {
        WokenBorder x = Due.car("sa1c0;pt1;ow1;ow2");
        for (int i = 0; i < 100; i++) {
            x.border(i / 10 % 2);
        }
        DUE.due("18: the LOG is full", x.count(11), 60);
        for (int i = 0; i < 40; i++) {
            x.undo();
        }
        DUE.due("18: what had fallen off is there again", x.count(11), 60);
        for (int i = 0; i < 60; i++) {
            DUE.due("18: log(" + i + ")", x.log(i, 0), (59 - i) / 10 % 2);
        }
    }

    private static void promise19Log() {
        WokenBorder x = Due.car(CAR);
        DUE.due("19: none yet", x.log(0, 0), NONE);
        x.border(1);
        x.border(0);
        int[][] want = {{0, 15, 1, 0}, {1, 27, 1, 27}};
        for (int i = 0; i < 2; i++) {
            for (int what = 0; what < 4; what++) {
                DUE.due("19: log(" + i + ", " + what + ")", x.log(i, what), want[i][what]);
            }
        }
        int[][] refused = {{2, 0}, {-1, 0}, {0, 4}, {0, -1}, {Integer.MAX_VALUE, 0}};
        for (int[] ask : refused) {
            DUE.due("19: refused log(" + ask[0] + ", " + ask[1] + ")", x.log(ask[0], ask[1]), NONE);
        }
        for (int i = 0; i < 60; i++) {
            x.border(0);
        }
        DUE.due("19: the 60th", x.log(59, 0), 0);
        DUE.due("19: the 61st", x.log(60, 0), NONE);
    }

    private static void promise20Step() {
        WokenBorder x = new WokenBorder();
        DUE.due("20: none yet", x.step(0, 0, 0), HIDDEN);
        Due.tell(x, 2, "m12;y30;w4;l5;x67;b8");
        int[][] want = {{0, 1, 2}, {1, 3, 0}, {2, 4, NONE}, {3, 5, NONE}, {4, 6, 7}, {5, 8, NONE}};
        for (int i = 0; i < 6; i++) {
            for (int what = 0; what < 3; what++) {
                DUE.due("20: step(0, " + i + ", " + what + ")", x.step(0, i, what), want[i][what]);
            }
        }
        int[][] refused = {{1, 0, 0}, {-1, 0, 0}, {0, 6, 0}, {0, -1, 0}, {0, 0, 3}, {0, 0, -1}};
        for (int[] ask : refused) {
            DUE.due("20: refused step", x.step(ask[0], ask[1], ask[2]), HIDDEN);
        }
    }

    private static void promise21Run() {
        WokenBorder x = new WokenBorder();
        Due.tell(x, 2, "w0;b1;w0;b0");
        DUE.due("21: no CAR", x.run(0, 0), HIDDEN);
        Due.tell(x, 0, CAR);
        Due.tell(x, 2, "m30;y01;w2;l2;x02;b0;b1");
        Due.tell(x, 2, "b2");
        DUE.due("21: behind two", x.run(0, 0), 2);
        DUE.due("21: SLEEP by these", x.run(0, 1), 8 + 11 + 8);
        DUE.due("21: all can be", x.run(1, 0), NONE);
        DUE.due("21: SLEEP by all", x.run(1, 1), 8 + 8 + 11 + 8);
        DUE.due("21: no such OFFICER", x.run(2, 0), 0);
        DUE.due("21: nothing lost by none", x.run(2, 1), 0);
        DUE.due("21: apart", x.count(12) + x.count(11) + x.count(13) + 10 * x.count(7), 40);
        int[][] refused = {{3, 0}, {-1, 0}, {0, 2}, {0, -1}};
        for (int[] ask : refused) {
            DUE.due("21: refused run", x.run(ask[0], ask[1]), HIDDEN);
        }
        Due.tell(x, 2, "m01;m02;m09");
        DUE.due("21: no such place", x.run(3, 0), 2);
    }

    private static void promise22Perform() {
        WokenBorder x = new WokenBorder();
        Due.tell(x, 2, "w0;b1;w0;b0");
        DUE.due("22: no CAR", x.perform(0), NONE);
        Due.tell(x, 0, CAR);
        DUE.due("22: up to there", x.perform(0), 2);
        DUE.due("22: ACTS", x.count(12), 2);
        DUE.due("22: LOG", x.log(0, 0) * 100 + x.log(0, 1), 124);
        DUE.due("22: SLEEP lost", x.count(13), 8 + 11 + 8);
        DUE.due("22: the first can't be now", x.perform(0), 0);
        DUE.due("22: no ACT then", x.count(12), 2);
        DUE.due("22: each is UNDONE alone", x.undo(), 1);
        DUE.due("22: one is still awake", x.count(7), 3);
        DUE.due("22: no such LINES", x.perform(1), NONE);
        DUE.due("22: no such LINES", x.perform(-1), NONE);
        Due.tell(x, 2, "m30;y01;w1;l0;x02;b0;b1");
        DUE.due("22: all of them", x.perform(1), 7);
    }
}
