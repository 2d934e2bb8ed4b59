/** Promises 34 to 46. */
final class MorningTest {
    private static final Due DUE = new Due();
    private static final int NONE = WokenBorder.NONE;
    private static final int HIDDEN = WokenBorder.HIDDEN;
    private static final String CAR = "sa2g20c1e3;pt2l2n3s4;pt3n6s1;pt1l5c1;pt4l1;ow2f0k2;ow1f1t1k1";

    public static void main(String[] args) {
        promise34Give();
        promise35Between();
        promise36Favour();
        promise37Rests();
        promise38Which();
        promise39Woken();
        promise40Tired();
        promise41Beside();
        promise42Slack();
        promise43Longest();
        promise44Image();
        promise45Back();
        promise45BackOfTheLog();
        promise46Count();
        nineSleepersFourOfficers();
        DUE.finish("MorningTest");
    }

    private static void give(String car, int digits, int trouble) {
        WokenBorder x = Due.car(car);
        DUE.due("34: digits for " + car, x.give(0), digits);
        DUE.due("34: TROUBLE for " + car, x.give(1), trouble);
    }

    private static void promise34Give() {
        give("p;o", 0, 0);
        give("p;p;o", 1, 3);
        give("pn1s0;pn9s9;o", 1, 10);
        give("pn9s0;pn1s9;o", 10, 82);
        // Without SNORES those with weak NERVES lie behind: 2 (0), 1 (5), 0 (9).
        give("pn9;pn5;pn0c1;o", 210, 5);
        // A quiet one between: 0 and 1 would trouble one another by 9 times 9, twice.
        give("pn9s9;pn9s9;pn0s0;o", 21, 18);
        give("p;p;p;p;p;p;p;o", 123456, 63);
        WokenBorder x = Due.car("p;p;p;p;p;p;p;pc1;o");
        DUE.due("34: eight SLEEPERS", x.give(0), HIDDEN);
        DUE.due("34: eight SLEEPERS", x.give(1), HIDDEN);
        DUE.due("34: no such what", x.give(2), NONE);
        DUE.due("34: no such what", x.give(-1), NONE);
        DUE.due("34: no CAR", new WokenBorder().give(0), NONE);
    }

    private static void promise35Between() {
        WokenBorder x = new WokenBorder();
        DUE.due("35: no CAR", x.between(), NONE);
        x = Due.car("sg18;pn9;pn8;pn9c1;o");
        DUE.due("35: nobody is awake", x.between(), 0);
        x.wake(0);
        x.wake(1);
        x.wake(2);
        DUE.due("35: 19 is more than 18, 18 is not", x.between(), 5);
        x.lie(2);
        DUE.due("35: who is ASLEEP is not KEPT UP", x.between(), 1);
        Due.tell(x, 1, "y:o*10+t");
        x.law(0);
        DUE.due("35: by hand", x.between(), 3);
        Due.tell(x, 1, "y:18");
        x.law(1);
        DUE.due("35: as much is not more", x.between(), 0);
    }

    private static void promise36Favour() {
        WokenBorder x = Due.car("pn3;pn6;pn9c1;ok2;ok9f1");
        DUE.due("36: house, a COFFEE", x.favour(0, 3, 1, 0, 0), -2);
        DUE.due("36: house, a COFFEE worth more", x.favour(1, 3, 1, 0, 0), 12);
        DUE.due("36: house, one night", x.favour(1, 1, 1, 0, 0), -2);
        DUE.due("36: house, nothing", x.favour(0, 3, 0, 0, 0), 0);
        DUE.due("36: house, FACES: 19 by 10, cut", x.favour(0, 3, 0, 1, 0), -3);
        DUE.due("36: house, both", x.favour(1, 3, 1, 1, 0), -9);
        DUE.due("36: house, 20 by 10", Due.car("pn7;pn3;o").favour(0, 1, 0, 1, 0), -2);
        int[] officer = {0, 9, 27, 18};
        for (int xy = 0; xy < 4; xy++) {
            DUE.due("36: OFFICER by " + xy, x.favour(0, 9, xy / 2, xy % 2, 1), officer[xy]);
        }
        x.wake(0);
        x.wake(1);
        DUE.due("36: SLEEP as all would lose it now", x.favour(0, 3, 0, 1, 0), -6);
        int[][] refused = {{2, 1, 0, 0, 0}, {-1, 1, 0, 0, 0}, {0, 0, 0, 0, 0}, {0, 10, 0, 0, 0}, {0, 1, 2, 0, 0},
            {0, 1, -1, 0, 0}, {0, 1, 0, 2, 0}, {0, 1, 0, -1, 0}, {0, 1, 0, 0, 2}, {0, 1, 0, 0, -1}};
        for (int[] ask : refused) {
            DUE.due("36: refused favour", x.favour(ask[0], ask[1], ask[2], ask[3], ask[4]), HIDDEN);
        }
    }

    private static void promise37Rests() {
        WokenBorder x = Due.car("pn3;pn6;ok2;ok9;ok4");
        DUE.due("37: how many", x.rests(0, 3, NONE), 1);
        DUE.due("37: no COFFEE, FACES", x.rests(0, 3, 0), 1);
        DUE.due("37: how many", x.rests(1, 9, NONE), 2);
        DUE.due("37: no COFFEE, FACES", x.rests(1, 9, 0), 1);
        DUE.due("37: a COFFEE, no FACES", x.rests(1, 9, 1), 10);
        DUE.due("37: no such one", x.rests(1, 9, 2), NONE);
        DUE.due("37: no such one", x.rests(1, 9, -2), NONE);
        DUE.due("37: as much is not more", x.rests(2, 2, 1), 10);
        DUE.due("37: no such OFFICER", x.rests(3, 2, NONE), NONE);
        DUE.due("37: no such OFFICER", x.rests(-1, 2, NONE), NONE);
        DUE.due("37: no night", x.rests(0, 0, NONE), NONE);
        DUE.due("37: ten nights", x.rests(0, 10, NONE), NONE);
    }

    private static void promise38Which() {
        WokenBorder x = new WokenBorder();
        DUE.due("38: no CAR", x.which(0), NONE);
        x = Due.car("p;pc1;p;o;of1;ow0f1");
        DUE.due("38: nobody", x.which(0), 1);
        DUE.due("38: all with PAPERS", x.which(5), 6);
        DUE.due("38: the CHILD, too", x.which(7), 0);
        DUE.due("38: one of them", x.which(1), 0);
        x.wake(0);
        DUE.due("38: as it is now", x.which(4), 6);
        x.border(1);
        DUE.due("38: nobody would be, by any", x.which(0), 7);
        DUE.due("38: no such set", x.which(8), NONE);
        DUE.due("38: no such set", x.which(-1), NONE);
    }

    private static void promise39Woken() {
        WokenBorder x = Due.car(CAR);
        DUE.due("39: never", x.woken(0), 0);
        x.wake(0);
        x.border(1);
        x.lie(0);
        x.border(1);
        x.border(0);
        DUE.due("39: by hand and at a BORDER", x.woken(0), 2);
        DUE.due("39: once", x.woken(1), 1);
        DUE.due("39: a CHILD", x.woken(2), 0);
        DUE.due("39: no such SLEEPER", x.woken(4), NONE);
        DUE.due("39: no such SLEEPER", x.woken(-1), NONE);
    }

    private static void promise40Tired() {
        WokenBorder x = new WokenBorder();
        DUE.due("40: no CAR", x.tired(), NONE);
        x = Due.car("pn3;pn6;pn6;o");
        DUE.due("40: nobody lost any", x.tired(), NONE);
        x.wake(2);
        DUE.due("40: the only one", x.tired(), 2);
        x.wake(1);
        DUE.due("40: of several the lowest", x.tired(), 1);
        x.wake(0);
        DUE.due("40: who lost less is not", x.tired(), 1);
        x.lie(0);
        x.wake(0);
        DUE.due("40: who lost most", x.tired(), 0);
    }

    private static void promise41Beside() {
        WokenBorder x = Due.car("p;p;pc1;p;o");
        int[] want = {2, 5, 10, 4};
        for (int who = 0; who < 4; who++) {
            DUE.due("41: beside(" + who + ")", x.beside(who), want[who]);
        }
        x.swap(0, 2);
        DUE.due("41: in BERTH 2 now", x.beside(0), 10);
        DUE.due("41: between both still", x.beside(1), 5);
        DUE.due("41: no such SLEEPER", x.beside(4), NONE);
        DUE.due("41: no such SLEEPER", x.beside(-1), NONE);
        DUE.due("41: alone", Due.car("p;o").beside(0), 0);
    }

    private static void promise42Slack() {
        WokenBorder x = Due.car(CAR);
        DUE.due("42: LATE", x.slack(0), -3);
        DUE.due("42: LATE", x.slack(1), -15);
        x.say(0, 1);
        x.say(3, 1);
        DUE.due("42: just in time", x.slack(0), 0);
        DUE.due("42: no such OFFICER", x.slack(2), HIDDEN);
        DUE.due("42: no such OFFICER", x.slack(-1), HIDDEN);
    }

    private static void promise43Longest() {
        WokenBorder x = Due.car("pt6l1;pt2l2;p;pl9c1;o");
        DUE.due("43: 12 and 20", x.longest(0), 1);
        x.move(1, 0);
        DUE.due("43: 14 and 14, the first in the DRAWER", x.longest(0), 1);
        x.say(1, 1);
        DUE.due("43: 8 and 14", x.longest(0), 0);
        DUE.due("43: no such OFFICER", x.longest(1), NONE);
        DUE.due("43: no such OFFICER", x.longest(-1), NONE);
        DUE.due("43: none LACKS", Due.car("p;pl9c1;o").longest(0), NONE);
        x = Due.car("p;pt1l1;p;ok9");
        x.say(1, 2);
        DUE.due("43: fetched at once, it is still what it LACKS", x.longest(0), 1);
    }

    private static void promise44Image() {
        WokenBorder x = new WokenBorder();
        DUE.due("44: no CAR", x.image(), NONE);
        x = Due.car(CAR);
        DUE.due("44: how many are ASLEEP", x.image(), 4);
        x.wake(0);
        DUE.due("44: instead of the one ahead", x.image(), 3);
        x.wake(1);
        DUE.due("44: the later one", x.back(), 3);
        DUE.due("44: it is no ACT", x.count(12), 0);
    }

    private static void promise45Back() {
        WokenBorder x = Due.car(CAR);
        DUE.due("45: no IMAGE", x.back(), NONE);
        x.move(3, 0);
        x.say(0, 2);
        x.swap(0, 1);
        x.wake(2);
        x.border(1);
        x.image();
        x.move(3, 2);
        x.say(0, 1);
        x.swap(0, 3);
        x.lie(0);
        x.wake(0);
        x.border(0);
        x.hear(true, 3);
        x.lookAt(0, true);
        x.drowsy(9);
        DUE.due("45: how many are ASLEEP", x.back(), 0);
        DUE.due("45: DRAWER", Due.drawer(x), 301);
        DUE.due("45: what is SAID", Due.sleeper(x, 0, 8), 2);
        DUE.due("45: BERTH", Due.sleeper(x, 0, 6), 1);
        DUE.due("45: WOKEN", x.woken(0), 1);
        DUE.due("45: SLEEP lost", Due.sleeper(x, 0, 10), 8);
        DUE.due("45: COFFEES", x.rule(2), 0);
        DUE.due("45: LOG", x.count(11) * 10 + x.log(0, 0), 11);
        DUE.due("45: no ACT can be UNDONE", x.undo(), NONE);
        DUE.due("45: HEARD, LOOKS, DROWSY stay", x.count(9) * 100 + x.count(10) * 10 + x.count(8), 119);
        x.lie(0);
        DUE.due("45: once more", x.back(), 0);
        Due.tell(x, 0, "p;o");
        DUE.due("45: no IMAGE of this CAR", x.back(), NONE);
    }

    private static void promise45BackOfTheLog() {
        WokenBorder x = Due.car("sa1c0;pt1;ow1;ow2");
        for (int i = 0; i < 70; i++) {
            x.border(i / 10 % 2);
        }
        x.image();
        x.nights(20, 1);
        x.nights(20, 2);
        x.nights(20, 3);
        x.nights(20, 4);
        x.nights(20, 5);
        x.nights(20, 6);
        x.back();
        DUE.due("45: the LOG is as long", x.count(11), 60);
        for (int i = 0; i < 60; i++) {
            DUE.due("45: log(" + i + ")", x.log(i, 0), (69 - i) / 10 % 2);
        }
        DUE.due("45: it goes on from there", x.border(0), 1);
        DUE.due("45: it goes on from there", x.undo(), 0);
    }

    private static void promise46Count() {
        WokenBorder x = Due.car(CAR);
        Due.tell(x, 1, "y:1");
        Due.tell(x, 1, "y:2");
        Due.tell(x, 2, "b0");
        x.law(1);
        x.drowsy(3);
        x.hear(true, 1);
        x.hear(true, 2);
        x.lookAt(0, true);
        x.border(1);
        x.border(0);
        x.lie(3);
        Due.feed(x, "abcde");
        int[] want = {4, 2, 2, 1, 5, 1, 3, 2, 3, 2, 1, 2, 3, 6};
        for (int what = 0; what < want.length; what++) {
            DUE.due("46: count(" + what + ")", x.count(what), want[what]);
        }
        DUE.due("46: others", x.count(14), HIDDEN);
        DUE.due("46: others", x.count(-1), HIDDEN);
    }

    /** The largest CAR: the last of each sort is as good as the others. */
    private static void nineSleepersFourOfficers() {
        WokenBorder x = Due.car("sa60c9;pl1;pl1;pl1;pl1;pl1;pl1;pl1;pl1;pl1n9s9f9;o;o;o;ow9f1k1");
        DUE.due("12: say(8, 2)", x.say(8, 2), 0);
        DUE.due("11: move(8, 0)", x.move(8, 0), 8);
        DUE.due("23: time(3, 0)", x.time(3, 0), 60);
        DUE.due("23: time(3, 1)", x.time(3, 1), 8 * 8 + 14);
        DUE.due("24: nine PAPERS", x.order(3, 0), HIDDEN);
        DUE.due("25: bound(3)", x.bound(3), 54);
        DUE.due("26: before(0)", x.before(0), 0);
        DUE.due("26: before(1)", x.before(1), 9 * 78);
        // 7 and 6 come last and drink a COFFEE each; an excuse for 5 still does no harm with FACES.
        DUE.due("27: words(0)", x.words(0), 1220);
        DUE.due("27: words(1)", x.words(1), 9 * 54 + 3 * 18);
        DUE.due("31: eight ways and none", x.fit(NONE), 9);
        DUE.due("31: the last way", x.fit(8), 101 + 78);
        DUE.due("32: eight and one at each", x.best(), 0);
        DUE.due("33: heads(9, 0)", x.heads(9, 0), 0);
        DUE.due("38: which(511)", x.which(511), 8);
        DUE.due("38: which(512)", x.which(512), NONE);
        DUE.due("15: swap(8, 0)", x.swap(8, 0), 3);
        DUE.due("41: beside(8)", x.beside(8), 2);
        DUE.due("16: border(3)", x.border(3), 60);
        DUE.due("40: tired()", x.tired(), 8);
        DUE.due("46: SLEEP lost in all", x.count(13), 78);
    }
}
