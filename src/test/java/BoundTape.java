import java.util.function.Supplier;

/** Boundary sentences about the TAPE and what it tells: promises 1 to 10. */
final class BoundTape extends Sentences {
    BoundTape(Bounds b) {
        super(b);
    }

    @Override
    void all() {
        promises1To5();
        promises6To10();
    }

    private void promises1To5() {
        b.opening(1, "An object is used for at most 512 calls after it has been made; what later calls answer is free.",
                this::calls512);
        b.promise(1, "No CAR.", this::newObject);
        b.promise(2, "Twenty bytes more come to the TAPE (of each number the highest first; bytes of 0 are left out): "
                + "how many it has.", this::bytesOfZero);
        b.refusal(2, "NONE: more than 240.", "more than 240", this::moreThan240);
        b.promise(3, "The TAPE has its first n bytes alone.", this::firstBytesAlone);
        b.refusal(3, "False: n.", "n", this::endOutOfBounds);
        b.refusal(4, "NONE: none.", "none", this::noFault);
        b.refusal(4, "-2: no such sort.", "no such sort", this::faultOfNoSuchSort);
        b.promise(5, "The TAPE (empty then) is the CAR (all that was of another one is gone but LAWS, which holds, "
                + "LINES, DROWSY): how many SLEEPERS; a LAW, LINES: the number.", this::anotherCar);
        String none = "NONE: a FAULT, no such sort, there are four.";
        b.refusal(5, none, "a FAULT", this::textWithFault);
        b.refusal(5, none, "no such sort", this::textOfNoSuchSort);
        b.refusal(5, none, "there are four", this::thereAreFour);
    }

    private void calls512() {
        WokenBorder x = Due.car("p;p;o");
        for (int call = 4; call <= 511; call++) {
            x.swap(0, 1);
        }
        b.due("the 512th call", x.swap(0, 1), 40);
        long sum = 0;
        for (int call = 513; call <= 700; call++) {
            sum += x.swap(0, 1) + x.border(0) + x.nights(20, call) + x.undo() + x.image() + x.back();
        }
        b.due("later calls answer something", sum != Long.MIN_VALUE, true);
    }

    private void newObject() {
        int[] counts = {0, 0, 0, 0, 0, NONE, 0, 0, 50, 0, 0, 0, 0, 0};
        for (int what = 0; what < counts.length; what++) {
            int asked = what;
            b.answers("count(" + what + ")", WokenBorder::new, x -> x.count(asked), counts[what]);
        }
        b.refused("rule(0)", WokenBorder::new, x -> x.rule(0), NONE);
        b.refused("undo()", WokenBorder::new, WokenBorder::undo, NONE);
    }

    private void bytesOfZero() {
        b.answers("twenty zeros", WokenBorder::new, x -> x.feed(0, 0, 0, 0, 0), 0);
        b.answers("one byte, the last", WokenBorder::new, x -> x.feed(0, 0, 0, 0, 1), 1);
        b.answers("one byte, the first", WokenBorder::new, x -> x.feed(0x01000000, 0, 0, 0, 0), 1);
        b.answers("a byte of 255 and none else", WokenBorder::new, x -> x.feed(0, 0xFF000000, 0, 0, 0), 1);
        b.answers("a byte of 128 and none else", WokenBorder::new, x -> x.feed(0, 0, LEAST, 0, 0), 1);
        b.answers("twenty", WokenBorder::new, x -> x.feed(-1, -1, -1, -1, -1), 20);
        b.answers("twenty and twenty", () -> withBytes(20), x -> x.feed(-1, -1, -1, -1, -1), 40);
        WokenBorder x = new WokenBorder();
        x.feed(0x70000000, 0x3B, 0x00006F00, 0, 0x00660031);
        b.due("p;of1 with zeros between", x.text(CAR) * 10 + x.officer(0, 1), 11);
    }

    private static WokenBorder withBytes(int n) {
        WokenBorder x = Worlds.lived();
        Due.feed(x, "p".repeat(n));
        return x;
    }

    private void moreThan240() {
        b.answers("240 of them", () -> withBytes(220), x -> x.feed(-1, -1, -1, -1, -1), 240);
        b.refused("241 of them", () -> withBytes(221), x -> x.feed(-1, -1, -1, -1, -1), NONE);
        b.answers("one more to 239", () -> withBytes(239), x -> x.feed(0, 0, 0, 0, 0x3B), 240);
        b.refused("two more to 239", () -> withBytes(239), x -> x.feed(0x3B, 0, 0, 0, 0x3B), NONE);
        b.refused("one more to 240", () -> withBytes(240), x -> x.feed(0, 0, 0x3B00, 0, 0), NONE);
        b.answers("none more to 240", () -> withBytes(240), x -> x.feed(0, 0, 0, 0, 0), 240);
        for (int sign : new int[] {1, 2, 64, 127, 128, 255}) {
            for (int at = 0; at < 4; at++) {
                int four = sign << 8 * at;
                String named = " byte of " + sign + ", " + at + " from the lowest";
                b.answers("the 240th," + named, () -> withBytes(239), x -> x.feed(0, four, 0, 0, 0), 240);
                b.refused("the 241st," + named, () -> withBytes(240), x -> x.feed(0, 0, 0, four, 0), NONE);
            }
        }
    }

    private void firstBytesAlone() {
        for (int n = 0; n <= 3; n++) {
            int first = n;
            b.answers("end(" + n + ") of 3", Worlds::lived, x -> bit(x.end(first)) * 10 + x.count(4), 10 + n);
        }
        b.answers("end(0) of none", WokenBorder::new, x -> bit(x.end(0)), 1);
        b.answers("end(240) of 240", () -> withBytes(240), x -> bit(x.end(240)) * 1000 + x.count(4), 1240);
        b.answers("they are the first", () -> Worlds.withTape("p;ox"), x -> bit(x.end(3)) * 10 + x.fault(CAR), 9);
    }

    private void endOutOfBounds() {
        for (int n : new int[] {-1, 4, 240, 241, LEAST, MOST}) {
            b.refused("end(" + n + ") of 3", Worlds::lived, x -> bit(x.end(n)), 0);
        }
        b.refused("end(1) of none", WokenBorder::new, x -> bit(x.end(1)), 0);
        b.refused("end(241) of 240", () -> withBytes(240), x -> bit(x.end(241)), 0);
    }

    private void noFault() {
        b.refused("fault(0) of a CAR", () -> Worlds.withTape("p;o"), x -> x.fault(CAR), NONE);
        b.refused("fault(1) of a LAW", () -> Worlds.withTape("y:1"), x -> x.fault(LAW), NONE);
        b.refused("fault(2) of LINES", () -> Worlds.withTape("b0"), x -> x.fault(LINES), NONE);
        b.refused("fault(0) of no CAR", () -> Worlds.withTape("p;x"), x -> x.fault(CAR), 2);
        b.refused("fault(1) of no LAW", () -> Worlds.withTape("b0"), x -> x.fault(LAW), 0);
        b.refused("fault(2) of no LINES", () -> Worlds.withTape("b0b"), x -> x.fault(LINES), 2);
    }

    private void faultOfNoSuchSort() {
        for (int sort : new int[] {-1, 3, 4, LEAST, MOST}) {
            b.refused("fault(" + sort + ")", Worlds::lived, x -> x.fault(sort), -2);
            b.refused("fault(" + sort + ") of nothing", WokenBorder::new, x -> x.fault(sort), -2);
        }
    }

    private void anotherCar() {
        b.answers("how many SLEEPERS", Worlds::lived, x -> x.text(CAR), 1);
        int[] counts = {1, 1, 2, 1, 0, 0, 1, 1, 30, 0, 0, 0, 0, 0};
        for (int what = 0; what < counts.length; what++) {
            int asked = what;
            b.answers("count(" + what + ")", BoundTape::another, x -> x.count(asked), counts[what]);
        }
        b.answers("COFFEES", BoundTape::another, x -> x.rule(2), 2);
        b.answers("WOKEN", BoundTape::another, x -> x.woken(0), 0);
        b.answers("what is SAID", BoundTape::another, x -> x.sleeper(0, 8), 0);
        b.answers("the LAW still holds", BoundTape::another, x -> x.wake(0), 4);
        b.answers("LINES are still there", BoundTape::another, x -> x.step(0, 2, 0), 3);
        b.refused("ACTS are gone", BoundTape::another, WokenBorder::undo, NONE);
        b.refused("the LOG is gone", BoundTape::another, x -> x.log(0, 0), NONE);
        b.refused("the IMAGE is gone", BoundTape::another, WokenBorder::back, NONE);
        b.refused("SLEEPERS are gone", BoundTape::another, x -> x.sleeper(1, 0), THROWS);
        b.refused("OFFICERS are gone", BoundTape::another, x -> x.officer(1, 0), NONE);
        b.answers("a LAW's number", () -> Worlds.withTape("y:1"), x -> x.text(LAW), 2);
        b.answers("LINES' number", () -> Worlds.withTape("b0"), x -> x.text(LINES), 1);
    }

    /** All has happened with the first CAR; "p;o" comes behind it. */
    private static WokenBorder another() {
        WokenBorder x = Worlds.lived();
        x.text(CAR);
        return x;
    }

    private void textWithFault() {
        b.answers("no FAULT", () -> Worlds.withTape("p;o"), x -> x.text(CAR), 1);
        b.bad(CAR, "p;o;", 4);
        b.bad(LAW, "y:1;", 4);
        b.bad(LINES, "b0;", 3);
        b.bad(CAR, "y:1", 0);
        b.bad(LAW, "b0", 0);
        b.bad(LINES, "p;o", 0);
        nothingIsLeftOfIt();
    }

    /** What stood ahead of the FAULT does not show in the next TEXT. */
    private void nothingIsLeftOfIt() {
        Supplier<WokenBorder> law = after(car("p;o"), x -> Due.tell(x, LAW, "y:5;y:6;"),
                x -> Due.tell(x, LAW, "y:7"), x -> x.law(0));
        b.answers("the next LAW", law, x -> x.wake(0), 7);
        Supplier<WokenBorder> lines = after(WokenBorder::new, x -> Due.tell(x, LINES, "m12;m34;b9;z"),
                x -> Due.tell(x, LINES, "w5"));
        b.answers("the next LINES", lines, x -> x.step(0, 0, 1), 5);
        b.refused("their second digit", lines, x -> x.step(0, 0, 2), NONE);
        b.refused("their second STEP", lines, x -> x.step(0, 1, 0), HIDDEN);
        Supplier<WokenBorder> car = after(WokenBorder::new,
                x -> Due.tell(x, CAR, "pt9l9n9s9f9;ow9f1t9k9;sa9g9c9e9;x"), x -> Due.tell(x, CAR, "p;o"));
        int[] sleeper = {2, 0, 3, 0, 0, 0, 0, 0, 0, 1, 0};
        for (int i = 0; i <= 10; i++) {
            int what = i;
            b.answers("the next CAR's SLEEPER, " + i, car, x -> x.sleeper(0, what), sleeper[i]);
        }
        int[] officer = {1, 0, 1, 1};
        int[] rules = {11, 20, 2, 3};
        for (int i = 0; i < 4; i++) {
            int what = i;
            b.answers("the next CAR's OFFICER, " + i, car, x -> x.officer(0, what), officer[i]);
            b.answers("the next CAR's RULES, " + i, car, x -> x.rule(what), rules[i]);
        }
    }

    private void textOfNoSuchSort() {
        for (int sort : new int[] {-1, 3, LEAST, MOST}) {
            for (String text : new String[] {"p;o", "y:1", "b0"}) {
                b.refused("text(" + sort + ") of " + text, () -> Worlds.withTape(text), x -> x.text(sort), NONE);
            }
        }
    }

    private void thereAreFour() {
        b.answers("a fourth LAW", () -> Worlds.withTape(Worlds.withLaws(3), "y:7"), x -> x.text(LAW), 3);
        b.refused("a fifth LAW", () -> Worlds.withTape(Worlds.withLaws(4), "y:7"), x -> x.text(LAW), NONE);
        b.answers("LINES beside four LAWS", () -> Worlds.withTape(Worlds.withLaws(4), "b0"), x -> x.text(LINES), 0);
        b.answers("fourth LINES", () -> Worlds.withTape(Worlds.withLines(3), "b0"), x -> x.text(LINES), 3);
        b.refused("fifth LINES", () -> Worlds.withTape(Worlds.withLines(4), "b0"), x -> x.text(LINES), NONE);
        b.answers("a LAW beside four LINES", () -> Worlds.withTape(Worlds.withLines(4), "y:7"), x -> x.text(LAW), 0);
        b.answers("a CAR beside four LAWS", () -> Worlds.withTape(Worlds.withLaws(4), "p;o"), x -> x.text(CAR), 1);
    }

    private void promises6To10() {
        String rules = "NONE: no CAR, no such what.";
        b.promise(6, "2 COFFEES left", this::coffeesLeft);
        b.refusal(6, rules, "no CAR", this::rulesWithoutCar);
        b.refusal(6, rules, "no such what", this::noSuchRule);
        b.promise(7, "5 CHILD (1, 0), 6 its BERTH", this::childAndBerth);
        b.promise(7, "8 what is SAID, 9 ASLEEP (1, 0), 10 SLEEP lost.", this::asleepOrAwake);
        b.promise(7, "7 its place in the DRAWER (NONE: a CHILD)", this::placeOfChild);
        b.refusal(7, "NoSuchElementException: no such ones.", "no such ones", this::noSuchSleeper);
        b.promise(8, "1 FACES (1, 0)", this::facesOrNot);
        b.refusal(8, "NONE: no such ones.", "no such ones", this::noSuchOfficer);
        b.promise(9, "The LAW that holds (NONE: none).", this::lawNone);
        b.refusal(9, "False: no such one.", "no such one", this::noSuchLaw);
        b.promise(10, "DROWSY (0 .. 99).", this::drowsyBounds);
        String drowsy = "False: out of bounds, it is so.";
        b.refusal(10, drowsy, "out of bounds", this::drowsyOutOfBounds);
        b.refusal(10, drowsy, "it is so", this::drowsyIsSo);
    }

    private void coffeesLeft() {
        b.answers("at first", car(Worlds.CAR), x -> x.rule(2), 1);
        b.answers("none left", Worlds::lived, x -> x.rule(2), 0);
        b.answers("no less than none", after(Worlds::lived, x -> x.border(1)), x -> x.rule(2), 0);
    }

    private void rulesWithoutCar() {
        for (int what = 0; what <= 3; what++) {
            int asked = what;
            b.refused("rule(" + what + ")", WokenBorder::new, x -> x.rule(asked), NONE);
            b.refused("rule(" + what + ") with LAWS", Worlds::shelf, x -> x.rule(asked), NONE);
        }
    }

    private void noSuchRule() {
        int[] rules = {2, 20, 0, 3};
        for (int what = 0; what <= 3; what++) {
            int asked = what;
            b.answers("rule(" + what + ")", Worlds::lived, x -> x.rule(asked), rules[what]);
        }
        for (int what : new int[] {-1, 4, LEAST, MOST}) {
            b.refused("rule(" + what + ")", Worlds::lived, x -> x.rule(what), NONE);
        }
    }

    private void childAndBerth() {
        b.answers("no CHILD", Worlds::lived, x -> x.sleeper(3, 5), 0);
        b.answers("a CHILD", Worlds::lived, x -> x.sleeper(2, 5), 1);
        b.answers("the first BERTH", Worlds::lived, x -> x.sleeper(1, 6), 0);
        b.answers("the last BERTH", Worlds::lived, x -> x.sleeper(3, 6), 3);
    }

    private void asleepOrAwake() {
        b.answers("nothing SAID", Worlds::lived, x -> x.sleeper(3, 8), 0);
        b.answers("a COFFEE", Worlds::lived, x -> x.sleeper(0, 8), 2);
        b.answers("awake", Worlds::lived, x -> x.sleeper(0, 9), 0);
        b.answers("ASLEEP", Worlds::lived, x -> x.sleeper(2, 9), 1);
        b.answers("ASLEEP again", Worlds::lived, x -> x.sleeper(3, 9), 1);
        b.answers("lost none", Worlds::lived, x -> x.sleeper(2, 10), 0);
        b.answers("lost some", Worlds::lived, x -> x.sleeper(3, 10), 4);
    }

    private void placeOfChild() {
        int[] places = {1, 2, NONE, 0};
        for (int who = 0; who < 4; who++) {
            int asked = who;
            b.answers("sleeper(" + who + ", 7)", Worlds::lived, x -> x.sleeper(asked, 7), places[who]);
        }
        b.refused("a CHILD that is the first", car("pc1;p;o"), x -> x.sleeper(0, 7), NONE);
        b.answers("the first PAPER", car("pc1;p;o"), x -> x.sleeper(1, 7), 0);
    }

    private void noSuchSleeper() {
        b.answers("the last one's last", Worlds::lived, x -> x.sleeper(3, 10), 4);
        b.answers("the first one's first", Worlds::lived, x -> x.sleeper(0, 0), 2);
        for (int who : new int[] {-1, 4, 9, LEAST, MOST}) {
            b.refused("sleeper(" + who + ", 0)", Worlds::lived, x -> x.sleeper(who, 0), THROWS);
            b.refused("sleeper(" + who + ", 10)", Worlds::lived, x -> x.sleeper(who, 10), THROWS);
        }
        for (int what : new int[] {-1, 11, LEAST, MOST}) {
            b.refused("sleeper(0, " + what + ")", Worlds::lived, x -> x.sleeper(0, what), THROWS);
        }
        for (int what = 0; what <= 10; what++) {
            int asked = what;
            b.refused("sleeper(0, " + what + ") without a CAR", Worlds::shelf, x -> x.sleeper(0, asked), THROWS);
        }
        b.answers("the ninth", car("p;p;p;p;p;p;p;p;pt9;o"), x -> x.sleeper(8, 0), 9);
    }

    private void facesOrNot() {
        b.answers("papers alone", Worlds::lived, x -> x.officer(0, 1), 0);
        b.answers("FACES", Worlds::lived, x -> x.officer(1, 1), 1);
    }

    private void noSuchOfficer() {
        b.answers("the first one's first", Worlds::lived, x -> x.officer(0, 0), 2);
        b.answers("the last one's last", Worlds::lived, x -> x.officer(1, 3), 1);
        for (int officer : new int[] {-1, 2, 4, LEAST, MOST}) {
            b.refused("officer(" + officer + ", 0)", Worlds::lived, x -> x.officer(officer, 0), NONE);
        }
        for (int what : new int[] {-1, 4, LEAST, MOST}) {
            b.refused("officer(0, " + what + ")", Worlds::lived, x -> x.officer(0, what), NONE);
        }
        b.refused("officer(0, 0) without a CAR", Worlds::shelf, x -> x.officer(0, 0), NONE);
        b.answers("the fourth", car("p;o;o;o;ow9"), x -> x.officer(3, 0), 9);
    }

    private void lawNone() {
        b.answers("law(NONE)", Worlds::lived, x -> bit(x.law(NONE)) * 10 + x.count(5), 9);
        b.answers("law(NONE) of none", WokenBorder::new, x -> bit(x.law(NONE)) * 10 + x.count(5), 9);
        b.answers("none holds then", () -> withoutLaw(Worlds.lived()), x -> x.wake(2), 8);
        b.answers("the one that holds", Worlds::lived, x -> x.wake(2), 4);
    }

    private static WokenBorder withoutLaw(WokenBorder x) {
        x.law(NONE);
        return x;
    }

    private void noSuchLaw() {
        b.answers("law(0)", Worlds::lived, x -> bit(x.law(0)) * 10 + x.count(5), 10);
        b.answers("law(1)", Worlds::lived, x -> bit(x.law(1)) * 10 + x.count(5), 11);
        for (int law : new int[] {-2, 2, 4, LEAST, MOST}) {
            b.refused("law(" + law + ") of two", Worlds::lived, x -> bit(x.law(law)), 0);
        }
        b.refused("law(0) of none", WokenBorder::new, x -> bit(x.law(0)), 0);
        b.refused("law(4) of four", () -> Worlds.withLaws(4), x -> bit(x.law(4)), 0);
    }

    private void drowsyBounds() {
        for (int v : new int[] {0, 1, 98, 99}) {
            b.answers("drowsy(" + v + ")", Worlds::lived, x -> bit(x.drowsy(v)) * 100 + x.count(8), 100 + v);
        }
    }

    private void drowsyOutOfBounds() {
        for (int v : new int[] {-1, 100, LEAST, MOST}) {
            b.refused("drowsy(" + v + ")", Worlds::lived, x -> bit(x.drowsy(v)), 0);
            b.refused("drowsy(" + v + ") of a new object", WokenBorder::new, x -> bit(x.drowsy(v)), 0);
        }
    }

    private void drowsyIsSo() {
        b.refused("drowsy(50) of a new object", WokenBorder::new, x -> bit(x.drowsy(50)), 0);
        b.refused("drowsy(30)", Worlds::lived, x -> bit(x.drowsy(30)), 0);
        b.answers("drowsy(29)", Worlds::lived, x -> bit(x.drowsy(29)), 1);
        b.answers("drowsy(31)", Worlds::lived, x -> bit(x.drowsy(31)), 1);
    }
}
