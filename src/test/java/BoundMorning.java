import java.util.function.Supplier;
import java.util.function.ToLongFunction;

/** Boundary sentences about berths, favours and mornings: the rest of the Terms, and promises 34 to 46. */
final class BoundMorning extends Sentences {
    BoundMorning(Bounds b) {
        super(b);
    }

    @Override
    void all() {
        give();
        between();
        favours();
        rests();
        which();
        mornings();
        slackAndLongest();
        images();
        counts();
    }

    private void give() {
        b.terms(34, "GIVE (7 SLEEPERS at most): BERTHS for all (digits: who lies in BERTH 0, the highest, ..; of "
                + "several the least) by which TROUBLE is least", this::leastBerths);
        b.terms(34, "for each its NERVES times SNORES of both beside it, and its NERVES times how many BERTHS come "
                + "behind its own (of BERTH 0 all others).", this::trouble);
        String none = "NONE: no CAR, no such what.";
        b.refusal(34, none, "no CAR", () -> withoutCar("give(0)", x -> x.give(0), NONE, Worlds::lived, 231));
        b.refusal(34, none, "no such what", this::noSuchGift);
        b.refusal(34, "HIDDEN: more than seven SLEEPERS.", "more than seven SLEEPERS", this::moreThanSevenSleepers);
    }

    private void give(String car, int digits, int trouble) {
        b.refused("give(0) of " + car, car(car), x -> x.give(0), digits);
        b.refused("give(1) of " + car, car(car), x -> x.give(1), trouble);
    }

    private void leastBerths() {
        give("p;o", 0, 0);
        give("p;p;o", 1, 3);
        give("pn0s9;pn0s9;pn0s9;o", 12, 0);
        give("p;p;p;p;p;p;p;o", 123456, 63);
        give("pn6;pn5;pn4;pn3;pn2;pn1;pn0;o", 6543210, 5 + 8 + 9 + 8 + 5);
        give("p;p;p;p;p;p;pc1;o", 123456, 63);
        behindAnotherCar("p;p;p;p;o", 123, 18);
        behindAnotherCar("pn9;p;p;p;o", 1230, 18);
    }

    private void behindAnotherCar(String car, int digits, int trouble) {
        Supplier<WokenBorder> world = after(car("pt9;pt9;pt9;pt9;pt9;pt9;pt9;o"), x -> x.order(0, 0), x -> x.give(0),
                x -> Due.tell(x, CAR, car));
        b.answers("digits behind another CAR, " + car, world, x -> x.give(0), digits);
        b.answers("TROUBLE behind another CAR, " + car, world, x -> x.give(1), trouble);
    }

    private void trouble() {
        give("pn9;o", 0, 0);
        give("pn9s9;o", 0, 0);
        give("pn0;pn9;o", 1, 0);
        give("pn9;pn0;o", 10, 0);
        give("pn9;pn9;o", 1, 9);
        give("pn9s9;pn9s9;o", 1, 9 + 2 * 81);
        give("pn9s9;pn9s9;pn0s0;o", 21, 18);
        give("pn0s1;pn1s0;pn0s1;o", 21, 1);
        // Least of all that were tried one by one.
        give("pn9s4;pn5s8;pn0s7;o", 120, 108);
        give("pn3s0;pn2s1;pn5s7;pn3s6;o", 3102, 55);
        give("pn8s1;pn9s3;pn0s3;pn6s4;pn2s6;o", 42301, 123);
        give("pn2s1;pn2s9;pn9s7;pn2s2;pn0s0;pn3s3;pn2s2;o", 1453602, 85);
        give("pn4s5;pn3s8;pn3s2;pn3s6;pn4s0;pn5s6;pn2s2;o", 1632045, 192);
    }

    private void noSuchGift() {
        b.answers("give(0)", Worlds::lived, x -> x.give(0), 231);
        b.answers("give(1)", Worlds::lived, x -> x.give(1), 9 + 18 + 6 + 0);
        for (int what : new int[] {-1, 2, LEAST, MOST}) {
            b.refused("give(" + what + ")", Worlds::lived, x -> x.give(what), NONE);
        }
    }

    private void moreThanSevenSleepers() {
        String seven = "p;p;p;p;p;p;p";
        for (int what = 0; what <= 1; what++) {
            int asked = what;
            b.answers("seven, what " + what, car(seven + ";o"), x -> bit(x.give(asked) > 0), 1);
            b.refused("eight, what " + what, car(seven + ";p;o"), x -> x.give(asked), HIDDEN);
            b.refused("seven and a CHILD, what " + what, car(seven + ";pc1;o"), x -> x.give(asked), HIDDEN);
            b.refused("nine, what " + what, car(NINE), x -> x.give(asked), HIDDEN);
        }
    }

    private void between() {
        b.terms(35, "KEPT UP: SLEEPERS (bits) who are awake and who would lose more SLEEP, WOKEN by hand as they are "
                + "now, than there are MINUTES from one border to the next.", this::moreThanBetween);
        b.refusal(35, "NONE: no CAR.", "no CAR",
                () -> withoutCar("between()", WokenBorder::between, NONE, Worlds::lived, 0));
    }

    private void moreThanBetween() {
        b.answers("13 of 14", after(car("sg14;p;o"), x -> x.wake(0)), WokenBorder::between, 0);
        b.answers("13 of 13", after(car("sg13;p;o"), x -> x.wake(0)), WokenBorder::between, 0);
        b.answers("13 of 12", after(car("sg12;p;o"), x -> x.wake(0)), WokenBorder::between, 1);
        b.answers("ASLEEP", car("sg0;p;o"), WokenBorder::between, 0);
        b.answers("ASLEEP again", after(car("sg0;p;o"), x -> x.wake(0), x -> x.lie(0)), WokenBorder::between, 0);
        b.answers("a CHILD", after(car("sg12;p;pc1;o"), x -> x.wake(1)), WokenBorder::between, 2);
        b.answers("the ninth", after(car("sg12;" + NINE), x -> x.wake(8)), WokenBorder::between, 256);
        b.answers("two of three", after(car("sg12;p;p;pc1;o"), x -> x.wake(0), x -> x.wake(2)), WokenBorder::between,
                5);
        b.answers("0 of 0", after(() -> Worlds.car("sg0;p;o", "y:0"), x -> x.wake(0)), WokenBorder::between, 0);
        b.answers("1 of 0", after(() -> Worlds.car("sg0;p;o", "y:1"), x -> x.wake(0)), WokenBorder::between, 1);
        b.answers("99 of 98", after(() -> Worlds.car("sg98;p;o", "y:100"), x -> x.wake(0)), WokenBorder::between, 1);
        b.answers("no more than 99", after(() -> Worlds.car("sg99;p;o", "y:100"), x -> x.wake(0)), WokenBorder::between,
                0);
        b.answers("by hand", after(() -> Worlds.car("sg8;p;of1", "y:o"), x -> x.border(0)), WokenBorder::between, 1);
        b.answers("by hand", after(() -> Worlds.car("sg9;p;of1", "y:o"), x -> x.border(0)), WokenBorder::between, 0);
    }

    private void favours() {
        b.terms(36, "FAVOUR of an OFFICER, n (1 .. 9) nights", this::oneToNineNights);
        b.terms(36, "the house gives a COFFEE each night (x 1) or none (0), the OFFICER looks at FACES (y 1) or not "
                + "(0)", this::choices);
        b.terms(36, "the house has: MINUTES k for each night behind the first, if x is 1 and y is 0",
                this::behindTheFirst);
        b.terms(36, "less 2 for each night if x is 1", this::twoForEachNight);
        b.terms(36, "the OFFICER has: 3 for each night if x is 1, 1 for each if y is 1, 2 less for each if both are.",
                this::officerHas);
        b.terms(36, "less SLEEP that all with PAPERS would lose by hand now, by 10, cut, for each night, if y is 1",
                this::sleepByTen);
        String hidden = "HIDDEN: no such ones, out of bounds.";
        b.refusal(36, hidden, "no such ones", this::noSuchFavour);
        b.refusal(36, hidden, "out of bounds", this::favourOutOfBounds);
    }

    private void oneToNineNights() {
        b.answers("one", car("p;ok9"), x -> x.favour(0, 1, 1, 0, 1), 3);
        b.answers("nine", car("p;ok9"), x -> x.favour(0, 9, 1, 0, 1), 27);
        b.refused("none", Worlds::lived, x -> x.favour(0, 0, 1, 0, 1), HIDDEN);
        b.refused("ten", Worlds::lived, x -> x.favour(0, 10, 1, 0, 1), HIDDEN);
    }

    private void choices() {
        int[] house = {0, -1, -2, -3};
        for (int i = 0; i < 4; i++) {
            int gives = i / 2;
            int looks = i % 2;
            b.refused("one night by " + gives + looks, car("pn5;ok9"), x -> x.favour(0, 1, gives, looks, 0), house[i]);
        }
        for (int choice : new int[] {-1, 2}) {
            b.refused("x " + choice, Worlds::lived, x -> x.favour(0, 1, choice, 0, 0), HIDDEN);
            b.refused("y " + choice, Worlds::lived, x -> x.favour(0, 1, 0, choice, 0), HIDDEN);
        }
    }

    private void twoForEachNight() {
        for (int nights : new int[] {1, 2, 9}) {
            b.answers("a COFFEE", car("pn4;ok0"), x -> x.favour(0, nights, 1, 0, 0), -2 * nights);
            b.answers("a COFFEE and FACES", car("pn4;ok0"), x -> x.favour(0, nights, 1, 1, 0), -2 * nights);
            b.answers("nothing", car("pn4;ok0"), x -> x.favour(0, nights, 0, 0, 0), 0);
        }
    }

    private void officerHas() {
        int[] officer = {0, 1, 3, 2};
        for (int i = 0; i < 4; i++) {
            int gives = i / 2;
            int looks = i % 2;
            b.refused("one night by " + gives + looks, car("p;o"), x -> x.favour(0, 1, gives, looks, 1), officer[i]);
            b.refused("nine nights by " + gives + looks, car("p;o"), x -> x.favour(0, 9, gives, looks, 1),
                    9 * officer[i]);
        }
    }

    private void behindTheFirst() {
        b.answers("one night: none behind it", car("p;ok9"), x -> x.favour(0, 1, 1, 0, 0), -2);
        b.answers("two nights: one", car("p;ok9"), x -> x.favour(0, 2, 1, 0, 0), 9 - 4);
        b.answers("nine nights: eight", car("p;ok9"), x -> x.favour(0, 9, 1, 0, 0), 72 - 18);
        b.answers("worth nothing", car("p;ok0"), x -> x.favour(0, 9, 1, 0, 0), -18);
        b.answers("y is 1", car("pn4;ok9"), x -> x.favour(0, 9, 1, 1, 0), -18);
        b.answers("x is 0", car("pn4;ok9"), x -> x.favour(0, 9, 0, 0, 0), 0);
    }

    private void sleepByTen() {
        b.answers("9 by 10", car("pn4;o"), x -> x.favour(0, 9, 0, 1, 0), 0);
        b.answers("10 by 10", car("pn5;o"), x -> x.favour(0, 9, 0, 1, 0), -9);
        b.answers("19 by 10", car("pn9;pn0;o"), x -> x.favour(0, 9, 0, 1, 0), -9);
        b.answers("20 by 10", car("pn9;pn1;o"), x -> x.favour(0, 9, 0, 1, 0), -18);
        b.answers("a CHILD has no PAPER", car("pn4;pn9c1;o"), x -> x.favour(0, 9, 0, 1, 0), 0);
        b.answers("now: WOKEN once before", after(car("pn0;o"), x -> x.wake(0), x -> x.lie(0)),
                x -> x.favour(0, 1, 0, 1, 0), -1);
        b.answers("nothing if y is 0", car("pn9;pn9;o"), x -> x.favour(0, 9, 0, 0, 0), 0);
        b.answers("by hand", () -> Worlds.car("p;o", "y:o*2"), x -> x.favour(0, 1, 0, 1, 0), -1);
        b.answers("nine who lose 99", () -> Worlds.car(NINE, "y:100"), x -> x.favour(0, 9, 1, 1, 0), -89 * 9 - 18);
    }

    private void noSuchFavour() {
        b.answers("favour(1, 1, 1, 0, 1)", Worlds::lived, x -> x.favour(1, 1, 1, 0, 1), 3);
        for (int officer : NO_OFFICERS) {
            b.refused("OFFICER " + officer, Worlds::lived, x -> x.favour(officer, 1, 0, 0, 0), HIDDEN);
        }
        for (int what : new int[] {-1, 2, LEAST, MOST}) {
            b.refused("what " + what, Worlds::lived, x -> x.favour(0, 1, 0, 0, what), HIDDEN);
        }
        withoutCar("favour(0, 1, 0, 0, 0)", x -> x.favour(0, 1, 0, 0, 0), HIDDEN, Worlds::lived, 0);
        b.answers("the fourth", car("p;o;o;o;ok9"), x -> x.favour(3, 2, 1, 0, 0), 5);
    }

    private void favourOutOfBounds() {
        for (int n : new int[] {-1, 0, 10, LEAST, MOST}) {
            b.refused("nights " + n, Worlds::lived, x -> x.favour(0, n, 0, 0, 0), HIDDEN);
        }
        for (int choice : new int[] {-1, 2, LEAST, MOST}) {
            b.refused("x " + choice, Worlds::lived, x -> x.favour(0, 1, choice, 1, 1), HIDDEN);
            b.refused("y " + choice, Worlds::lived, x -> x.favour(0, 1, 1, choice, 1), HIDDEN);
        }
        b.answers("all at their bounds", Worlds::lived, x -> x.favour(0, 9, 1, 1, 1), 18);
    }

    private void rests() {
        b.terms(37, "RESTS: 10 times x and y by which neither has more by another of its own alone: how many, the i-th "
                + "(rising).", this::neitherHasMore);
        b.promise(37, "RESTS: how many (i NONE), the i-th.", this::howManyRest);
        String none = "NONE: no such one, no such OFFICER, out of bounds.";
        b.refusal(37, none, "no such one", this::noSuchRest);
        b.refusal(37, none, "no such OFFICER", this::restsOfNoOfficer);
        b.refusal(37, none, "out of bounds", this::restsOutOfBounds);
    }

    /** No COFFEE and FACES always rest; a COFFEE and no FACES as soon as it is worth its 2 for each night. */
    private void neitherHasMore() {
        b.answers("3 for 4", car("p;ok3"), x -> x.rests(0, 2, NONE), 1);
        b.answers("4 for 4: as much is not more", car("p;ok4"), x -> x.rests(0, 2, NONE), 2);
        b.answers("5 for 4", car("p;ok5"), x -> x.rests(0, 2, NONE), 2);
        b.answers("16 for 18", car("p;ok2"), x -> x.rests(0, 9, NONE), 1);
        b.answers("24 for 18", car("p;ok3"), x -> x.rests(0, 9, NONE), 2);
        b.answers("one night: nothing for 2", car("p;ok9"), x -> x.rests(0, 1, NONE), 1);
        b.answers("the lower", car("p;ok4"), x -> x.rests(0, 2, 0), 1);
        b.answers("the higher", car("p;ok4"), x -> x.rests(0, 2, 1), 10);
    }

    private void howManyRest() {
        b.answers("how many", car("p;ok9"), x -> x.rests(0, 9, NONE), 2);
        b.answers("the first", car("p;ok9"), x -> x.rests(0, 9, 0), 1);
        b.answers("the last", car("p;ok9"), x -> x.rests(0, 9, 1), 10);
        b.answers("one alone", car("p;ok0"), x -> x.rests(0, 9, 0), 1);
    }

    private void noSuchRest() {
        for (int i : new int[] {-2, 2, 3, LEAST, MOST}) {
            b.refused("rests(0, 9, " + i + ") of two", car("p;ok9"), x -> x.rests(0, 9, i), NONE);
        }
        b.refused("rests(0, 9, 1) of one", car("p;ok0"), x -> x.rests(0, 9, 1), NONE);
        b.refused("rests(1, 1, 1) of one", Worlds::lived, x -> x.rests(1, 1, 1), NONE);
    }

    private void restsOfNoOfficer() {
        for (int officer : NO_OFFICERS) {
            b.refused("rests(" + officer + ", 1, NONE)", Worlds::lived, x -> x.rests(officer, 1, NONE), NONE);
            b.refused("rests(" + officer + ", 1, 0)", Worlds::lived, x -> x.rests(officer, 1, 0), NONE);
        }
        withoutCar("rests(0, 1, NONE)", x -> x.rests(0, 1, NONE), NONE, Worlds::lived, 1);
    }

    private void restsOutOfBounds() {
        for (int n : new int[] {-1, 0, 10, LEAST, MOST}) {
            b.refused("rests(0, " + n + ", NONE)", Worlds::lived, x -> x.rests(0, n, NONE), NONE);
            b.refused("rests(0, " + n + ", 0)", Worlds::lived, x -> x.rests(0, n, 0), NONE);
        }
        b.answers("rests(0, 1, NONE)", Worlds::lived, x -> x.rests(0, 1, NONE), 1);
        b.answers("rests(0, 9, NONE)", Worlds::lived, x -> x.rests(0, 9, NONE), 1);
    }

    private void which() {
        b.terms(38, "a set of SLEEPERS (bits) who were WOKEN at one BORDER as it is now: OFFICERS (bits) by whom just "
                + "these would be.", this::justThese);
        String none = "NONE: no such set, no CAR.";
        b.refusal(38, none, "no such set", this::noSuchSet);
        b.refusal(38, none, "no CAR", () -> withoutCar("which(0)", x -> x.which(0), NONE, Worlds::lived, 1));
    }

    private void justThese() {
        Supplier<WokenBorder> world = car("p;pc1;p;o;of1;o;of1");
        b.refused("nobody", world, x -> x.which(0), 5);
        b.refused("all with PAPERS", world, x -> x.which(5), 10);
        b.refused("one less", world, x -> x.which(4), 0);
        b.refused("the CHILD, too", world, x -> x.which(7), 0);
        b.refused("the CHILD is the first", car("pc1;p;of1"), x -> x.which(2), 1);
        b.refused("nobody is ASLEEP but the CHILD", after(world, x -> x.border(1)), x -> x.which(0), 15);
        b.refused("who was awake", after(world, x -> x.wake(0)), x -> x.which(4), 10);
        b.refused("the CHILD awake", after(world, x -> x.wake(1)), x -> x.which(5), 10);
    }

    private void noSuchSet() {
        b.answers("the empty one", Worlds::lived, x -> x.which(0), 1);
        b.answers("all four", Worlds::lived, x -> x.which(15), 0);
        for (int set : new int[] {-1, 16, 32, LEAST, MOST}) {
            b.refused("which(" + set + ")", Worlds::lived, x -> x.which(set), NONE);
        }
        b.answers("all nine", car("p;p;p;p;p;p;p;p;p;of1"), x -> x.which(511), 1);
        b.refused("a tenth", car("p;p;p;p;p;p;p;p;p;of1"), x -> x.which(512), NONE);
        b.answers("one of one", car("p;of1"), x -> x.which(1), 1);
        b.refused("two of one", car("p;of1"), x -> x.which(2), NONE);
    }

    private void mornings() {
        b.terms(39, "LAST: how often one was WOKEN.", this::howOftenWoken);
        b.refusal(39, "NONE: no such SLEEPER.", "no such SLEEPER",
                () -> noSuchSleeper("woken", WokenBorder::woken, 1, 1));
        b.terms(40, "TIRED: who lost most SLEEP (of several the lowest).", this::lostMost);
        String tired = "NONE: nobody lost any, no CAR.";
        b.refusal(40, tired, "nobody lost any", this::nobodyLostAny);
        b.refusal(40, tired, "no CAR", () -> withoutCar("tired()", WokenBorder::tired, NONE, Worlds::lived, 0));
        b.terms(41, "NEIGHBOURS of a SLEEPER (bits).", this::neighbours);
        b.refusal(41, "NONE: no such SLEEPER.", "no such SLEEPER",
                () -> noSuchSleeper("beside", WokenBorder::beside, 3, 4));
    }

    private void noSuchSleeper(String call, Asked asked, int there, int want) {
        for (int who : NO_SLEEPERS) {
            b.refused(call + "(" + who + ")", Worlds::lived, x -> asked.ask(x, who), NONE);
        }
        withoutCar(call + "(" + there + ")", x -> asked.ask(x, there), NONE, Worlds::lived, want);
        b.answers(call + "(8) of nine", car(NINE), x -> bit(asked.ask(x, 8) >= 0), 1);
        b.refused(call + "(9) of nine", car(NINE), x -> asked.ask(x, 9), NONE);
    }

    private void howOftenWoken() {
        b.answers("never", car("p;of1"), x -> x.woken(0), 0);
        b.answers("by hand", after(car("p;of1"), x -> x.wake(0)), x -> x.woken(0), 1);
        b.answers("at a BORDER", after(car("p;of1"), x -> x.border(0)), x -> x.woken(0), 1);
        b.answers("awake at a BORDER", after(car("p;of1"), x -> x.wake(0), x -> x.border(0)), x -> x.woken(0), 1);
        b.answers("at a BORDER of papers alone", after(car("p;o"), x -> x.border(0)), x -> x.woken(0), 0);
        b.answers("twice", after(car("p;of1"), x -> x.wake(0), x -> x.lie(0), x -> x.border(0)), x -> x.woken(0), 2);
        b.answers("0 lost, but WOKEN", after(() -> Worlds.car("p;o", "y:0"), x -> x.wake(0)), x -> x.woken(0), 1);
    }

    private void lostMost() {
        Supplier<WokenBorder> world = car("pn3;pn4;pn4;pn5c1;o");
        b.answers("the only one", after(world, x -> x.wake(0)), WokenBorder::tired, 0);
        b.answers("one more", after(world, x -> x.wake(0), x -> x.wake(2)), WokenBorder::tired, 2);
        b.answers("as much as another", after(world, x -> x.wake(2), x -> x.wake(1)), WokenBorder::tired, 1);
        b.answers("one less", after(world, x -> x.wake(1), x -> x.wake(0)), WokenBorder::tired, 1);
        b.answers("a CHILD", after(world, x -> x.wake(1), x -> x.wake(3)), WokenBorder::tired, 3);
        b.answers("the ninth", after(car(NINE), x -> x.wake(8)), WokenBorder::tired, 8);
    }

    private void nobodyLostAny() {
        b.refused("at first", car(Worlds.CAR), WokenBorder::tired, NONE);
        b.refused("nine of them, at first", car(NINE), WokenBorder::tired, NONE);
        b.refused("WOKEN, but 0 lost", after(() -> Worlds.car("p;o", "y:0"), x -> x.wake(0)), WokenBorder::tired, NONE);
        b.answers("1 lost", after(() -> Worlds.car("p;o", "y:1"), x -> x.wake(0)), WokenBorder::tired, 0);
        b.refused("all UNDONE", after(car("p;o"), x -> x.wake(0), WokenBorder::undo), WokenBorder::tired, NONE);
    }

    private void neighbours() {
        b.refused("alone", car("p;o"), x -> x.beside(0), 0);
        b.refused("in the first BERTH", car(NINE), x -> x.beside(0), 2);
        b.refused("between two", car(NINE), x -> x.beside(1), 5);
        b.refused("ahead of the last", car(NINE), x -> x.beside(7), 64 + 256);
        b.refused("in the last BERTH", car(NINE), x -> x.beside(8), 128);
        b.refused("behind a SWAP", after(car(NINE), x -> x.swap(0, 8)), x -> x.beside(0), 128);
        b.refused("beside one who came", after(car(NINE), x -> x.swap(0, 8)), x -> x.beside(1), 4 + 256);
    }

    private void slackAndLongest() {
        b.terms(42, "SLACK of an OFFICER: TENS that are ALLOWED less TIME.", this::allowedLessTime);
        b.refusal(42, "HIDDEN: no such OFFICER.", "no such OFFICER", this::slackOfNoOfficer);
        b.terms(43, "LONGEST: the PAPER after whose turn what it LACKS comes last at a BORDER as it is now (of several "
                + "the first in the DRAWER; none LACKS).", this::comesLast);
        String none = "NONE: none LACKS, no such OFFICER.";
        b.refusal(43, none, "none LACKS", this::noneLacks);
        b.refusal(43, none, "no such OFFICER", this::longestOfNoOfficer);
    }

    private void allowedLessTime() {
        b.refused("one left", car("sa1;pt5;o"), x -> x.slack(0), 1);
        b.refused("none left", car("sa1;pt6;o"), x -> x.slack(0), 0);
        b.refused("one too many", car("sa1;pt7;o"), x -> x.slack(0), -1);
        b.refused("the most", car("sa60;pt1;o"), x -> x.slack(0), 359);
        b.refused("as it is now", after(car("sa1e9;pt1;of1t0"), x -> x.wake(0)), x -> x.slack(0), 5);
        String longest = "sa1e9;" + "pt9;".repeat(8) + "pt9l9;of1t9";
        b.refused("the least", after(car(longest), x -> x.say(8, 1)), x -> x.slack(0), 6 - 351);
    }

    private void slackOfNoOfficer() {
        for (int officer : NO_OFFICERS) {
            b.refused("slack(" + officer + ")", Worlds::lived, x -> x.slack(officer), HIDDEN);
        }
        withoutCar("slack(1)", x -> x.slack(1), HIDDEN, Worlds::lived, 12 - 23);
        b.answers("slack(3) of four", car("p;o;o;o;o"), x -> x.slack(3), 64);
        b.refused("slack(4) of four", car("p;o;o;o;o"), x -> x.slack(4), HIDDEN);
    }

    private void comesLast() {
        b.refused("13 and 12", car("pt1l2;pt5l1;o"), x -> x.longest(0), 0);
        b.refused("13 and 13, the first", car("pt1l2;pt6l1;o"), x -> x.longest(0), 0);
        b.refused("13 and 14", car("pt1l2;pt7l1;o"), x -> x.longest(0), 1);
        b.refused("14 and 14, the first is another", after(car("pt6l1;pt2l2;o"), x -> x.move(1, 0)), x -> x.longest(0),
                1);
        b.refused("one who LACKS nothing comes last", car("pt1l1;pt9;o"), x -> x.longest(0), 0);
        b.refused("fetched at once", after(car("sc1;pt1l1;pt9;ok1"), x -> x.say(0, 2)), x -> x.longest(0), 0);
    }

    private void noneLacks() {
        b.refused("nobody", car("p;p;o"), x -> x.longest(0), NONE);
        b.refused("a CHILD alone", car("p;pl9c1;o"), x -> x.longest(0), NONE);
        b.answers("one MINUTE", car("p;pl1;o"), x -> x.longest(0), 1);
    }

    private void longestOfNoOfficer() {
        for (int officer : NO_OFFICERS) {
            b.refused("longest(" + officer + ")", Worlds::lived, x -> x.longest(officer), NONE);
        }
        withoutCar("longest(1)", x -> x.longest(1), NONE, Worlds::lived, 0);
        b.answers("longest(3) of four", car("pl1;o;o;o;o"), x -> x.longest(3), 0);
        b.refused("longest(4) of four", car("pl1;o;o;o;o"), x -> x.longest(4), NONE);
    }

    private void images() {
        b.promise(44, "An IMAGE (instead of the one ahead): how many are ASLEEP.", this::insteadOfTheOneAhead);
        b.refusal(44, "NONE: no CAR.", "no CAR",
                () -> withoutCar("image()", WokenBorder::image, NONE, Worlds::lived, 2));
        b.terms(45, "An IMAGE keeps BERTHS, DRAWER, what is SAID, who is ASLEEP, WOKEN, SLEEP lost, COFFEES, the LOG; "
                + "BACK: they are so again (no ACT can be UNDONE then).", this::soAgain);
        b.refusal(45, "NONE: no IMAGE of this CAR.", "no IMAGE of this CAR", this::noImage);
    }

    private void insteadOfTheOneAhead() {
        b.answers("all ASLEEP", car(NINE), WokenBorder::image, 9);
        b.answers("none ASLEEP", after(car("p;o"), x -> x.wake(0)), WokenBorder::image, 0);
        Supplier<WokenBorder> twice = after(car("p;p;o"), WokenBorder::image, x -> x.wake(0), WokenBorder::image);
        b.answers("the later one", after(twice, x -> x.wake(1)), WokenBorder::back, 1);
        b.answers("it is no ACT", twice, x -> x.count(12), 1);
    }

    private void soAgain() {
        Supplier<WokenBorder> back = after(Worlds::lived, WokenBorder::back);
        b.answers("how many are ASLEEP", Worlds::lived, WokenBorder::back, 3);
        int[][] kept = {{1, 1, 2, 1, 0}, {0, 2, 0, 0, 7}, {2, NONE, 0, 1, 0}, {3, 0, 0, 1, 0}};
        for (int i = 0; i < 4; i++) {
            for (int k = 0; k < 5; k++) {
                int who = i;
                int what = 6 + k;
                b.answers("sleeper(" + who + ", " + what + ")", back, x -> x.sleeper(who, what), kept[i][k]);
            }
            int who = i;
            b.answers("woken(" + who + ")", back, x -> x.woken(who), i == 1 ? 1 : 0);
        }
        b.answers("COFFEES", back, x -> x.rule(2), 1);
        b.answers("the LOG", back, x -> x.count(11), 0);
        b.answers("no ACT", back, x -> x.count(12), 0);
        b.refused("nothing to be UNDONE", back, WokenBorder::undo, NONE);
        b.answers("the IMAGE stays", after(back, x -> x.wake(0)), WokenBorder::back, 3);
        b.answers("HEARD, LOOKS, DROWSY stay", back, x -> x.count(9) * 1000 + x.count(10) * 100 + x.count(8), 1130);
        fullLogAgain();
    }

    /** A LOG of sixty that was written over wholly behind the IMAGE. */
    private void fullLogAgain() {
        Supplier<WokenBorder> full = after(car("p;ow1;ow0"), x -> x.border(1), x -> x.nights(20, 1),
                x -> x.nights(20, 2), x -> x.nights(19, 3), WokenBorder::image);
        Supplier<WokenBorder> over = after(full, x -> x.nights(20, 4), x -> x.nights(20, 5), x -> x.nights(20, 6),
                x -> x.nights(20, 7), x -> x.nights(20, 8), x -> x.nights(20, 9));
        b.answers("the oldest of sixty", full, x -> x.log(59, 0), 1);
        b.answers("it fell off", over, x -> x.log(59, 0), 0);
        b.answers("it is there again", after(over, WokenBorder::back), x -> x.log(59, 0), 1);
        b.answers("it falls off again", after(over, WokenBorder::back, x -> x.border(0)), x -> x.log(59, 0), 0);
        b.answers("how long it is", after(over, WokenBorder::back), x -> x.count(11), 60);
    }

    private void noImage() {
        b.refused("of a new object", WokenBorder::new, WokenBorder::back, NONE);
        b.refused("without a CAR", Worlds::shelf, WokenBorder::back, NONE);
        b.refused("of a CAR without one", after(car(Worlds.CAR), x -> x.wake(0)), WokenBorder::back, NONE);
        b.refused("of another CAR", after(Worlds::lived, x -> x.text(CAR)), WokenBorder::back, NONE);
        b.refused("of a twin CAR", after(Worlds::lived, x -> Due.tell(x, CAR, Worlds.CAR)), WokenBorder::back, NONE);
        b.answers("of this CAR", Worlds::lived, WokenBorder::back, 3);
        b.answers("a CAR that was refused", after(Worlds::lived, x -> Due.tell(x, CAR, "p;o;")), WokenBorder::back, 3);
    }

    private void counts() {
        b.promise(46, "5 the LAW that holds (NONE)", this::lawThatHolds);
        b.promise(46, "0 SLEEPERS, 1 OFFICERS, 2 LAWS, 3 LINES, 4 bytes of the TAPE,", this::mostOfEach);
        b.promise(46, "6 PAPERS", this::papersInAll);
        b.promise(46, "7 how many are ASLEEP, 8 DROWSY, 9 HEARD, 10 LOOKS, 11 how long the LOG is, 12 ACTS that can be "
                + "UNDONE, 13 SLEEP lost in all.", this::countsAsItIsNow);
        b.promise(46, "HIDDEN for others.", this::otherCounts);
        b.terms(46, "What is refused answers as told and changes nothing.", this::refusedOneAfterAnother);
        b.terms(46, "The constants: NONE = -1: None; refused. HIDDEN = -1000000: Not told.", this::constants);
    }

    private void lawThatHolds() {
        b.refused("none at first", WokenBorder::new, x -> x.count(5), NONE);
        b.answers("none though one is told", after(WokenBorder::new, x -> Due.tell(x, LAW, "y:1")), x -> x.count(5),
                NONE);
        b.answers("the first", Worlds::shelf, x -> x.count(5), 0);
        b.answers("the fourth", after(() -> Worlds.withLaws(4), x -> x.law(3)), x -> x.count(5), 3);
        b.refused("none again", after(Worlds::shelf, x -> x.law(NONE)), x -> x.count(5), NONE);
    }

    private void mostOfEach() {
        b.answers("SLEEPERS", car(NINE), x -> x.count(0), 9);
        b.answers("OFFICERS", car("p;o;o;o;o"), x -> x.count(1), 4);
        b.answers("LAWS", () -> Worlds.withLaws(4), x -> x.count(2), 4);
        b.answers("LINES", () -> Worlds.withLines(4), x -> x.count(3), 4);
        b.answers("bytes", () -> Worlds.withTape("p".repeat(240)), x -> x.count(4), 240);
        b.answers("bytes that did not come", () -> Worlds.withTape("p".repeat(241)), x -> x.count(4), 240);
        for (int what = 0; what <= 4; what++) {
            int asked = what;
            b.answers("none of " + what, WokenBorder::new, x -> x.count(asked), 0);
        }
    }

    private void papersInAll() {
        b.answers("none without a CAR", WokenBorder::new, x -> x.count(6), 0);
        b.answers("one, and eight CHILDREN", car("pc1;".repeat(8) + "p;o"), x -> x.count(6), 1);
        b.answers("nine", car(NINE), x -> x.count(6), 9);
    }

    private void countsAsItIsNow() {
        int[] counts = {2, 30, 1, 1, 1, 6, 7 + 4 + 12};
        for (int k = 0; k < counts.length; k++) {
            int what = 7 + k;
            b.answers("count(" + what + ")", Worlds::lived, x -> x.count(what), counts[k]);
        }
        b.answers("nobody ASLEEP", after(car("p;o"), x -> x.wake(0)), x -> x.count(7), 0);
        b.answers("sixty in the LOG", () -> Worlds.passed("p;o", 61), x -> x.count(11), 60);
        b.answers("forty ACTS", () -> Worlds.passed("p;o", 61), x -> x.count(12), 40);
    }

    private void otherCounts() {
        b.answers("count(0)", Worlds::lived, x -> x.count(0), 4);
        b.answers("count(13)", Worlds::lived, x -> bit(x.count(13) >= 0), 1);
        for (int what : new int[] {-1, 14, LEAST, MOST}) {
            b.refused("count(" + what + ")", Worlds::lived, x -> x.count(what), HIDDEN);
            b.refused("count(" + what + ") of a new object", WokenBorder::new, x -> x.count(what), HIDDEN);
        }
    }

    /** All that is refused, one call behind the other on the same object. */
    private void refusedOneAfterAnother() {
        ToLongFunction<WokenBorder> refusals = x -> {
            long sum = bit(x.end(4)) + bit(x.law(2)) + bit(x.drowsy(30)) + bit(x.drowsy(100));
            sum += x.move(2, 0) + x.say(1, 1) + x.wake(0) + x.lie(2) + x.swap(1, 1) + x.border(2) + x.nights(21, 1);
            sum += x.text(LAW) + x.text(3) + x.hear(true, 1000) + x.lookAt(4, true) + x.perform(1) + x.log(1, 0);
            return sum;
        };
        b.refused("thirteen that answer NONE", Worlds::lived, refusals, -13);
    }

    private void constants() {
        b.due("NONE", WokenBorder.NONE, -1);
        b.due("HIDDEN", WokenBorder.HIDDEN, -1000000);
    }
}
