/** Promises 1 to 10, and the Terms' TEXTS. */
final class TextsTest {
    private static final Due DUE = new Due();
    private static final int NONE = WokenBorder.NONE;
    private static final String CAR = "sa12g25c1e4;pt2l3n4s5f6;pc1;pt9;ow3f1t5k7;o";

    public static void main(String[] args) {
        promise1NewObject();
        promise2Feed();
        promise3End();
        promise4FaultOfCar();
        promise4FaultOfLaw();
        promise4FaultOfLines();
        promise5Text();
        promise6Rule();
        promise7Sleeper();
        promise8Officer();
        promise9Law();
        promise9Worth();
        promise10Drowsy();
        DUE.finish("TextsTest");
    }

    private static void promise1NewObject() {
        WokenBorder x = new WokenBorder();
        int[] counts = {0, 0, 0, 0, 0, NONE, 0, 0, 50, 0, 0, 0, 0, 0};
        for (int what = 0; what < counts.length; what++) {
            DUE.due("1: count(" + what + ")", x.count(what), counts[what]);
        }
        DUE.due("1: rule", x.rule(0), NONE);
        DUE.due("1: border", x.border(0), NONE);
        DUE.due("1: nothing to undo", x.undo(), NONE);
        DUE.due("1: no act of a refused one", x.count(12), 0);
        DUE.due("1: sleeper", Due.sleeper(x, 0, 0), Due.THROWS);
        DUE.due("1: between", x.between(), NONE);
        DUE.due("1: back", x.back(), NONE);
        DUE.due("1: NONE", WokenBorder.NONE, -1);
        DUE.due("1: HIDDEN", WokenBorder.HIDDEN, -1000000);
    }

    private static void promise2Feed() {
        WokenBorder x = new WokenBorder();
        DUE.due("2: zeros left out", x.feed(0x70003B00, 0x6F, 0, 0, 0), 3);
        DUE.due("2: highest first", x.text(0), 1);
        DUE.due("2: high bytes count", x.feed(-1, 0, 0x00800000, 0, 0), 5);
        DUE.due("2: fault at a high byte", x.fault(0), 0);
        x.end(0);
        for (int i = 1; i <= 11; i++) {
            DUE.due("2: twenty more", x.feed(0x70707070, 0x70707070, 0x70707070, 0x70707070, 0x70707070), 20 * i);
        }
        DUE.due("2: one too many", x.feed(-1, -1, -1, -1, -1) + x.feed(1, 0, 0, 0, 0), 239);
        DUE.due("2: refused at 240", x.feed(0, 0, 0, 0, 1), NONE);
        DUE.due("2: it kept what it had", x.count(4), 240);
        DUE.due("2: nothing more is no more", x.feed(0, 0, 0, 0, 0), 240);
        for (int k = 0; k < 5; k++) {
            x.end(239);
            int[] v = new int[5];
            v[k] = 0x7070;
            DUE.due("2: two do not go, wherever they stand", x.feed(v[0], v[1], v[2], v[3], v[4]), NONE);
            v[k] = 0x70;
            DUE.due("2: one does", x.feed(v[0], v[1], v[2], v[3], v[4]), 240);
        }
        x.end(235);
        DUE.due("2: six do not go", x.feed(-1, 0xFFFF, 0, 0, 0), NONE);
        DUE.due("2: five do", x.feed(-1, 0xFF, 0, 0, 0), 240);
    }

    private static void promise3End() {
        WokenBorder x = new WokenBorder();
        DUE.due("3: end(0) of an empty one", x.end(0), true);
        DUE.due("3: end(1) of an empty one", x.end(1), false);
        Due.feed(x, "p;o;x");
        DUE.due("3: end(-1)", x.end(-1), false);
        DUE.due("3: end(6)", x.end(6), false);
        DUE.due("3: it kept what it had", x.count(4), 5);
        DUE.due("3: end(5)", x.end(5), true);
        DUE.due("3: end(3)", x.end(3), true);
        DUE.due("3: first three alone", x.count(4), 3);
        DUE.due("3: they are the first ones", x.fault(0), NONE);
        DUE.due("3: those behind are gone", x.end(4), false);
    }

    private static void fault(int sort, String text, int want) {
        WokenBorder x = new WokenBorder();
        Due.feed(x, text);
        DUE.due("4: fault of '" + text + "' as " + sort, x.fault(sort), want);
        DUE.due("4: it keeps the TAPE", x.count(4), text.length());
        DUE.due("5: text of '" + text + "' as " + sort, x.text(sort) == NONE, want != NONE);
    }

    private static void promise4FaultOfCar() {
        String[] good = {"p;o", "o;p", "s;p;o", "p;s;o", " p ; o ", "pc0;o", "pc1;p;o", "ps1;s;o", "sa1;p;o",
            "sa01;p;o", "sa60g99c9e9;p;o", "se0c0g0a1;p;o", "pt9l9n9s9f9c0;o", "pt1l0n0s0f0;o", "ow9f1t9k9;p",
            "ow0f0t0k0;p", "s a 1 g 2 ; p t 03 ; o", "p;p;p;p;p;p;p;p;p;o;o;o;o;s"};
        for (String text : good) {
            fault(0, text, NONE);
        }
        String[] bad = {"", "   ", "p", "o", "s", "p;", "p;o;", "pc1;o", "pc1;pc1;o", "x", "P;o", "p,o", "p;;o",
            "p;o x", "s;p;s;o", "sa0;p;o", "sa00;p;o", "sa61;p;o", "sa1 1;p;o", "sg100;p;o", "sg000;p;o", "sa999;p;o",
            "sc10;p;o", "se10;p;o", "sx1;p;o", "sa;p;o", "sa1a2;p;o", "pt0;o", "pt10;o", "pt123;o", "pc2;o", "pc",
            "pl10;o", "pn10;o", "ps10;o", "pf10;o", "pa1;o", "pt1l1t1;o", "ow10;p", "of2;p", "ot10;p", "ok10;p",
            "oc1;p", "ok1k1;p", "p;p;p;p;p;p;p;p;p;p;o", "o;o;o;o;o;p", "p;o;sa", "pc1;pc1;pc1;pc1;pc1;pc1;pc1;pc1;pc1;o",
            "pt1;o\u00e9"};
        int[] at = {0, 3, 1, 1, 1, 2, 4, 5, 9, 0, 0, 1, 2,
            4, 4, 2, 3, 3, 4, 4, 4, 4,
            3, 3, 1, 2, 3, 2, 3, 4, 2, 2,
            3, 3, 3, 3, 1, 5, 3, 2, 3, 3,
            1, 3, 18, 8, 6, 37,
            5};
        for (int i = 0; i < bad.length; i++) {
            fault(0, bad[i], at[i]);
        }
    }

    private static void promise4FaultOfLaw() {
        String[] good = {"y:1", "y:n", "y:0000", "y:9999", "y:n+w-t*c/o+s", "y:n=1?2", "y:!n=1?2", "y:(n=1)?2",
            "y:!!n=1?2", "y:!(n=1)?2", "y:n=1&w=2|t>3?4", "y:[n+1]*2", "y:[n+1]<2?3", "y:n;y:w", "y:n=1?1;y:2",
            "y : n = 1 ? 2 ; y : 3 ", "y:((((((n=1))))))?1", "y:![[[[[1]]]]]=1?2", "y:!(n=1)&!(w=1)&!(t=1)&!(c=1)?1",
            "y:[1]+[2]+[3]+[4]+[5]+[6]+[7]", "y:(n=1|w=1)&(t=1)?1", "y:1=1?1;y:1=1?1;y:1=1?1;y:1=1?1;y:1=1?1"};
        for (String text : good) {
            fault(1, text, NONE);
        }
        String[] bad = {"", " ", "y", "y:", "z:1", "y1", "y:q", "y:n=1", "y:n=1?", "y:!n", "y:!n?2", "y:(n)?2",
            "y:(n=1)", "y:(n=1)=2", "y:(n=1?2", "y:n;", "y:n;n", "y:1?2", "y:n<1<2?3", "y:n&1?2", "y:[n+1", "y:(n+1)*2",
            "y:[n=1]", "y:12345", "y:1 2", "y:12 345", "y:-1", "y:1--2", "y:n=-1?2", "y:n=1?2?3", "y:n=1?w=2", "y:n=1?!w=2",
            "y:(((((((n=1)))))))?1", "y:![[[[[[1]]]]]]=1?2", "y:!!!!!!!n=1?1", "y:[[[[[[[1]]]]]]]", "y:n)", "y:n]",
            "y:n=1|?2", "y:n=1&&w=1?2", "y::1", "y:nw", "y:n=w=1?2", "y:1+", "y:1*+2"};
        int[] at = {0, 1, 1, 2, 0, 1, 2, 5, 6, 4, 4, 4,
            7, 7, 6, 4, 4, 3, 5, 3, 6, 6,
            4, 6, 4, 5, 2, 4, 4, 7, 7, 6,
            8, 8, 8, 8, 3, 3,
            6, 6, 2, 3, 5, 4, 4};
        for (int i = 0; i < bad.length; i++) {
            fault(1, bad[i], at[i]);
        }
    }

    private static void promise4FaultOfLines() {
        String step16 = "w0;w1;w2;w3;w4;w5;w6;w7;w8;w9;l0;l1;l2;l3;l4;l5";
        String[] good = {"m00", "m99", "y00", "y92", "w9", "l0", "x99", "b9", " m 1 2 ; x 0 1 ", "w0;b1", step16};
        for (String text : good) {
            fault(2, text, NONE);
        }
        String[] bad = {"", "  ", "m", "m0", "m000", "y03", "y0 9", "y", "w", "w00", "wx", "b0;", "b0;;", "b0,b1", "z0",
            "m0;b0", step16 + ";w0", step16 + ";", "W0", "l", "x1", "b"};
        int[] at = {0, 2, 1, 2, 3, 2, 3, 1, 1, 2, 1, 3, 3, 2, 0,
            2, 47, 47, 0, 1, 2, 1};
        for (int i = 0; i < bad.length; i++) {
            fault(2, bad[i], at[i]);
        }
        WokenBorder x = new WokenBorder();
        Due.feed(x, "p;o");
        DUE.due("4: no such sort", x.fault(3), -2);
        DUE.due("4: no such sort", x.fault(-1), -2);
        Due.feed(x, "b0");
        DUE.due("5: LINES, but no such sort", x.text(3), NONE);
        Due.feed(x, "y:1");
        DUE.due("5: a LAW, but no such sort", x.text(-1), NONE);
        DUE.due("5: nothing was kept", x.count(2) + x.count(3), 0);
    }

    private static void promise5Text() {
        WokenBorder x = Due.car(CAR);
        DUE.due("5: the TAPE is empty then", x.count(4), 0);
        for (int i = 0; i < 4; i++) {
            DUE.due("5: a LAW's number", Due.tell(x, 1, "y:" + i), i);
            DUE.due("5: LINES' number", Due.tell(x, 2, "w" + i), i);
        }
        DUE.due("5: a fifth LAW", Due.tell(x, 1, "y:5"), NONE);
        DUE.due("5: the TAPE stays", x.count(4), 3);
        DUE.due("5: fifth LINES", Due.tell(x, 2, "w5"), NONE);
        DUE.due("5: no such sort", x.text(3), NONE);
        DUE.due("5: no such sort", x.text(-1), NONE);
        DUE.due("5: the TAPE stays", x.count(4), 2);
        x.law(2);
        x.drowsy(7);
        x.border(0);
        x.hear(true, 1);
        x.lookAt(0, true);
        x.image();
        DUE.due("5: a FAULT", Due.tell(x, 0, "p;o;"), NONE);
        DUE.due("5: changes nothing", x.count(0) * 1000 + x.count(9) * 100 + x.count(10) * 10 + x.count(11), 3111);
        DUE.due("5: another CAR", Due.tell(x, 0, "p;pc1;o"), 2);
        int[] counts = {2, 1, 4, 4, 0, 2, 1, 2, 7, 0, 0, 0, 0, 0};
        for (int what = 0; what < counts.length; what++) {
            DUE.due("5: count(" + what + ")", x.count(what), counts[what]);
        }
        DUE.due("5: no IMAGE of this CAR", x.back(), NONE);
        DUE.due("5: no ACT of another CAR", x.undo(), NONE);
        DUE.due("5: no LOG of another CAR", x.log(0, 0), NONE);
        DUE.due("5: the LAW still holds", x.wake(0), 2);
        DUE.due("5: LINES are still there", x.step(3, 0, 1), 3);
    }

    private static void promise6Rule() {
        WokenBorder x = Due.car(CAR);
        int[] rules = {12, 25, 1, 4};
        for (int what = 0; what < 4; what++) {
            DUE.due("6: rule(" + what + ")", x.rule(what), rules[what]);
        }
        DUE.due("6: no such what", x.rule(4), NONE);
        DUE.due("6: no such what", x.rule(-1), NONE);
        x.say(0, 2);
        x.border(1);
        DUE.due("6: COFFEES left", x.rule(2), 0);
        x.undo();
        DUE.due("6: COFFEES come again", x.rule(2), 1);
        WokenBorder plain = Due.car("p;o");
        int[] without = {11, 20, 2, 3};
        for (int what = 0; what < 4; what++) {
            DUE.due("6: without, rule(" + what + ")", plain.rule(what), without[what]);
        }
    }

    private static void promise7Sleeper() {
        WokenBorder x = Due.car(CAR);
        int[][] want = {{2, 3, 4, 5, 6, 0, 0, 0, 0, 1, 0}, {2, 0, 3, 0, 0, 1, 1, NONE, 0, 1, 0},
            {9, 0, 3, 0, 0, 0, 2, 1, 0, 1, 0}};
        for (int who = 0; who < 3; who++) {
            for (int what = 0; what <= 10; what++) {
                DUE.due("7: sleeper(" + who + ", " + what + ")", Due.sleeper(x, who, what), want[who][what]);
            }
        }
        int[][] none = {{-1, 0}, {3, 0}, {0, -1}, {0, 11}, {Integer.MIN_VALUE, 0}, {0, Integer.MAX_VALUE}};
        for (int[] ask : none) {
            DUE.due("7: no such ones", Due.sleeper(x, ask[0], ask[1]), Due.THROWS);
        }
        DUE.due("7: a CHILD that is the first", Due.sleeper(Due.car("pc1;p;p;o"), 0, 7), NONE);
        DUE.due("7: its paper is no paper of others", Due.sleeper(Due.car("pc1;p;p;o"), 1, 7), 0);
        x.swap(0, 2);
        x.move(2, 0);
        x.say(0, 1);
        x.wake(0);
        int[] changed = {2, 1, 1, 0, 9};
        for (int k = 0; k < 5; k++) {
            DUE.due("7: as it is now, " + (k + 6), Due.sleeper(x, 0, k + 6), changed[k]);
        }
    }

    private static void promise8Officer() {
        WokenBorder x = Due.car(CAR);
        int[][] want = {{3, 1, 5, 7}, {1, 0, 1, 1}};
        for (int o = 0; o < 2; o++) {
            for (int what = 0; what < 4; what++) {
                DUE.due("8: officer(" + o + ", " + what + ")", x.officer(o, what), want[o][what]);
            }
        }
        DUE.due("8: no such OFFICER", x.officer(2, 0), NONE);
        DUE.due("8: no such OFFICER", x.officer(-1, 0), NONE);
        DUE.due("8: no such what", x.officer(0, 4), NONE);
        DUE.due("8: no such what", x.officer(0, -1), NONE);
    }

    private static void promise9Law() {
        WokenBorder x = new WokenBorder();
        DUE.due("9: none, without a CAR", x.law(NONE), true);
        DUE.due("9: no such one", x.law(0), false);
        Due.tell(x, 1, "y:7");
        Due.tell(x, 1, "y:8");
        DUE.due("9: none holds at first", x.count(5), NONE);
        DUE.due("9: law(1)", x.law(1), true);
        DUE.due("9: law(1) again", x.law(1), true);
        DUE.due("9: law(2)", x.law(2), false);
        DUE.due("9: law(-2)", x.law(-2), false);
        DUE.due("9: it holds", x.count(5), 1);
        Due.tell(x, 0, "pn4;pn4;o");
        DUE.due("9: by the LAW", x.wake(0), 8);
        DUE.due("9: law(-1)", x.law(-1), true);
        DUE.due("9: without a LAW", x.wake(1), 9);
        x.lie(1);
        DUE.due("9: 5 for each time before", x.wake(1), 14);
    }

    /** What waking by hand costs sleeper 1 of three under a LAW: it has NERVES 6, is a CHILD, snorers beside it. */
    private static void worth(String law, int want) {
        WokenBorder x = Due.car("ps4;pn6c1s9;ps3;o");
        DUE.due("9: text of " + law, Due.tell(x, 1, law), 0);
        x.law(0);
        DUE.due("9: WORTH of " + law, x.wake(1), want);
    }

    private static void promise9Worth() {
        worth("y:n", 6);
        worth("y:w", 0);
        worth("y:t", 0);
        worth("y:c", 1);
        worth("y:o", 9);
        worth("y:s", 7);
        worth("y:100", 99);
        worth("y:0-1", 0);
        worth("y:2+3*4", 14);
        worth("y:[2+3]*4", 20);
        worth("y:20-3-4", 13);
        worth("y:50/3/2", 8);
        worth("y:50/[3/2]", 50);
        worth("y:7/2*2", 6);
        worth("y:10+[0-7]/2", 7);
        worth("y:5+9/0", 5);
        worth("y:9999*9999-9999*100", 99);
        worth("y:9999*9999-9999*100-90", 10);
        worth("y:[0-9999]*9999+9999*100+150", 50);
        worth("y:9999*100+9999-9999*100-90", 10);
        worth("y:n=6?1;y:2", 1);
        worth("y:n=5?1;y:2", 2);
        worth("y:n=5?1", 0);
        worth("y:n<6?1;y:n>5?3;y:4", 3);
        worth("y:n>6?1;y:2", 2);
        worth("y:n<6?1;y:2", 2);
        worth("y:!n=6?1;y:2", 2);
        worth("y:!!n=6?1;y:2", 1);
        worth("y:n=5&n=5|n=6?1;y:2", 1);
        worth("y:n=6|n=5&n=5?1;y:2", 1);
        worth("y:(n=6|n=5)&n=5?1;y:2", 2);
        worth("y:!n=5&n=6?1;y:2", 1);
        worth("y:!(n=5|n=6)?1;y:2", 2);
        worth("y:n+1=s?1;y:2", 1);
        worth("y:1", 1);
        worth("y:((((((n=6))))))?[[[[[[41]]]]]]+1", 42);
        worth("y:" + "n=5|n=6&(".repeat(6) + "1<2+3*n" + "))))))?41;y:42", 41);
        worth("y:1+1*[1+1*[1+1*[1+1*[1+1*[1+1*[1+1*5]]]]]]", 12);
        worth("y:0" + "+1-0".repeat(59) + " ", 59);
        worth("y:0=1?1;".repeat(29) + "y:0<1?7", 7);
    }

    private static void promise10Drowsy() {
        WokenBorder x = new WokenBorder();
        DUE.due("10: it is so", x.drowsy(50), false);
        DUE.due("10: 100", x.drowsy(100), false);
        DUE.due("10: -1", x.drowsy(-1), false);
        DUE.due("10: unchanged", x.count(8), 50);
        DUE.due("10: 99", x.drowsy(99), true);
        DUE.due("10: 0", x.drowsy(0), true);
        DUE.due("10: it is so", x.drowsy(0), false);
        DUE.due("10: 0 is kept", x.count(8), 0);
    }
}
