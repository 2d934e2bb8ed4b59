import java.util.Set;
import java.util.function.ToLongFunction;

/** Boundary sentences about TEXTS: ==== 1 of the Terms. */
final class BoundTexts extends Sentences {
    BoundTexts(Bounds b) {
        super(b);
    }

    @Override
    void all() {
        cars();
        itemsOfRules();
        itemsOfSleepers();
        itemsOfOfficers();
        laws();
        lines();
        blanksAndFaults();
    }

    private void cars() {
        b.terms(4, "s (its RULES; one at most)", this::rulesOnce);
        b.terms(5, "p (a SLEEPER; 1 .. 9)", this::sleepersOneToNine);
        b.terms(5, "o (an OFFICER; 1 .. 4), in any order", this::officersOneToFour);
        b.terms(4, "then ITEMS, none or more: a letter, each once at most in a CLAUSE", this::itemsNoneOrEachOnce);
        b.terms(4, "and a number (one or two digits)", this::oneOrTwoDigits);
    }

    private void rulesOnce() {
        b.answers("rule(0) without s", car("p;o"), x -> x.rule(0), 11);
        b.answers("rule(0) with one s behind all", car("p;o;sa7"), x -> x.rule(0), 7);
        b.good(CAR, "s;p;o");
        b.good(CAR, "p;s;o");
        b.bad(CAR, "s;s;p;o", 2);
        b.bad(CAR, "sa7;p;o;sg7", 8);
        b.bad(CAR, "p;o;s;s", 6);
    }

    private void sleepersOneToNine() {
        for (int n = 1; n <= 9; n++) {
            String car = "p;".repeat(n) + "o";
            b.answers("text of " + n + " SLEEPERS", WokenBorder::new, x -> Due.tell(x, CAR, car), n);
            b.answers("count(0) of " + n + " SLEEPERS", car(car), x -> x.count(0), n);
        }
        b.bad(CAR, "o", 1);
        b.bad(CAR, "s;o", 3);
        b.bad(CAR, "p;p;p;p;p;p;p;p;p;p;o", 18);
        b.bad(CAR, "p;p;p;p;o;p;p;p;p;p;pc1", 20);
    }

    private void officersOneToFour() {
        for (int n = 1; n <= 4; n++) {
            String car = "o;".repeat(n) + "p";
            b.answers("count(1) of " + n + " OFFICERS", car(car), x -> x.count(1), n);
        }
        b.good(CAR, "o;p;o;s;p;o;p;o");
        b.bad(CAR, "p", 1);
        b.bad(CAR, "o;o;o;o;o;p", 8);
        b.bad(CAR, "o;p;o;s;p;o;p;o;ow0", 16);
    }

    private void itemsNoneOrEachOnce() {
        b.good(CAR, "s;p;o");
        b.good(CAR, "sa1g2c3e4;pt1l2n3s4f5c0;ow1f1t2k3");
        b.good(CAR, "se4c3g2a1;pc0f5s4n3l2t1;ok3t2f1w1");
        b.good(CAR, "pt1;pt1;ot1;ot1;sc1");
        String[] clauses = {"s", "p", "o"};
        String[] letters = {"agce", "tlnsfc", "wftk"};
        for (int k = 0; k < 3; k++) {
            for (char letter : letters[k].toCharArray()) {
                String once = clauses[k] + letter + "1";
                b.good(CAR, once + ";p;o");
                b.bad(CAR, once + letter + "1;p;o", 3);
            }
            for (char letter = 'a'; letter <= 'z'; letter++) {
                if (letters[k].indexOf(letter) < 0) {
                    b.bad(CAR, clauses[k] + letter + "1;p;o", 1);
                }
            }
        }
        b.bad(CAR, "pt1l2n3s4f5c0t1;o", 13);
    }

    private void oneOrTwoDigits() {
        b.bad(CAR, "sa;p;o", 2);
        b.bad(CAR, "p;o;sa", 6);
        b.answers("one digit", car("sa1;p;o"), x -> x.rule(0), 1);
        b.answers("two digits", car("sa10;p;o"), x -> x.rule(0), 10);
        b.answers("two digits, a 0 ahead", car("sa01;p;o"), x -> x.rule(0), 1);
        b.bad(CAR, "sa010;p;o", 4);
    }

    private void itemsOfRules() {
        b.terms(6, "a MINUTES that are ALLOWED (1 .. 60; 11 without)", () -> item("s", "a", 1, 60, 11, x -> x.rule(0)));
        b.terms(6, "g MINUTES from one border to the next (0 .. 99; 20)",
                () -> item("s", "g", 0, 99, 20, x -> x.rule(1)));
        b.terms(6, "c COFFEES (0 .. 9; 2)", () -> item("s", "c", 0, 9, 2, x -> x.rule(2)));
        b.terms(6, "e by how much one who is ASLEEP takes longer, in TENS (of seconds; 0 .. 9; 3)",
                () -> item("s", "e", 0, 9, 3, x -> x.rule(3)));
    }

    private void itemsOfSleepers() {
        b.terms(7, "t TENS for its stamp (1 .. 9; 2)", () -> item("p", "t", 1, 9, 2, x -> x.sleeper(0, 0)));
        b.terms(7, "l MINUTES for what it LACKS (0 .. 9; 0)", () -> item("p", "l", 0, 9, 0, x -> x.sleeper(0, 1)));
        b.terms(7, "n NERVES (0 .. 9; 3)", () -> item("p", "n", 0, 9, 3, x -> x.sleeper(0, 2)));
        b.terms(7, "s SNORES (0 .. 9; 0)", () -> item("p", "s", 0, 9, 0, x -> x.sleeper(0, 3)));
        b.terms(7, "f FACE (0 .. 9; 0)", () -> item("p", "f", 0, 9, 0, x -> x.sleeper(0, 4)));
        b.terms(7, "c whether a CHILD (0, 1; 0)", () -> item("p", "c", 0, 1, 0, x -> x.sleeper(0, 5)));
    }

    private void itemsOfOfficers() {
        b.terms(8, "w WEIGHT (0 .. 9; 1)", () -> item("o", "w", 0, 9, 1, x -> x.officer(0, 0)));
        b.terms(8, "f whether it looks at FACES (0, 1; 0)", () -> item("o", "f", 0, 1, 0, x -> x.officer(0, 1)));
        b.terms(8, "t TENS for a FACE (0 .. 9; 1)", () -> item("o", "t", 0, 9, 1, x -> x.officer(0, 2)));
        b.terms(8, "k how many MINUTES a COFFEE is worth (0 .. 9; 1)",
                () -> item("o", "k", 0, 9, 1, x -> x.officer(0, 3)));
    }

    /** An ITEM at its bounds, beyond each of them, and without it. */
    private void item(String clause, String letter, int lowest, int highest, int without,
            ToLongFunction<WokenBorder> seen) {
        String rest = ";p;o";
        String item = clause + letter;
        b.answers("without " + letter, car(clause + rest), seen, without);
        for (int value : new int[] {lowest, lowest + 1, highest - 1, highest}) {
            String two = value < 10 ? "0" + value : "" + value;
            b.answers(item + value, car(item + value + rest), seen, value);
            b.answers(item + two, car(item + two + rest), seen, value);
        }
        if (lowest > 0) {
            b.bad(CAR, item + (lowest - 1) + rest, 2);
            b.bad(CAR, item + "0" + (lowest - 1) + rest, 3);
        }
        String above = "" + (highest + 1);
        b.bad(CAR, item + above + rest, 1 + above.length());
        if (highest < 9) {
            b.bad(CAR, item + "0" + above + rest, 3);
        }
        if (highest < 99) {
            b.bad(CAR, item + "99" + rest, 3);
        }
    }

    private void laws() {
        b.terms(5, "LAWS (4 at most) are TEXTS", this::fourLaws);
        b.terms(4, "CLAUSES with ; between, one at least: y, : , perhaps CONDITION ?, then SUM.",
                this::oneClauseAtLeast);
        b.terms(9, "CONDITION: TRUTHS with | between; TRUTH: UNITS with & between; UNIT: ! UNIT, ( CONDITION ), or "
                + "SUM, one of = < >, SUM.", this::conditions);
        b.terms(4, "ATOM: a number (1 to 4 digits), a letter (n w t c o s), [ SUM ].", this::atoms);
        b.terms(4, "(A CLAUSE that goes on with ! or ( behind its : has a CONDITION.)", this::clauseWithCondition);
        b.terms(4, "At most six of ( [ ! within one another.", this::sixWithinOneAnother);
        b.terms(9, "Behind each sign numbers are within -1,000,000 .. 1,000,000", this::withinAMillion);
        b.terms(9, "/ cuts towards 0, by 0 gives 0.", this::division);
        b.terms(9, "WORTH of a LAW: the SUM of the first CLAUSE whose CONDITION holds (or has none), 0 without.",
                this::firstClauseThatHolds);
    }

    private void fourLaws() {
        b.answers("the first LAW", WokenBorder::new, x -> Due.tell(x, LAW, "y:7"), 0);
        b.answers("the fourth LAW", () -> Worlds.withLaws(3), x -> Due.tell(x, LAW, "y:7"), 3);
        b.answers("it can hold", () -> Worlds.withLaws(4), x -> bit(x.law(3)), 1);
        b.refused("a fifth LAW", () -> Worlds.withTape(Worlds.withLaws(4), "y:7"), x -> x.text(LAW), NONE);
    }

    private void oneClauseAtLeast() {
        b.bad(LAW, "", 0);
        b.good(LAW, "y:1");
        b.good(LAW, "y:n=1?1");
        b.good(LAW, "y:1;y:1");
        b.good(LAW, "y:1;".repeat(59) + "y:1 ");
        b.bad(LAW, "y:1;", 4);
        b.bad(LAW, ";y:1", 0);
        b.bad(LAW, "y:1;;y:1", 4);
    }

    private void atoms() {
        b.bad(LAW, "y:", 2);
        b.bad(LAW, "y:+1", 2);
        worth("y:7", 7);
        worth("y:0042", 42);
        worth("y:9999/1000", 9);
        b.bad(LAW, "y:00042", 6);
        b.bad(LAW, "y:99999", 6);
        for (char letter = 'a'; letter <= 'z'; letter++) {
            if ("nwtcos".indexOf(letter) >= 0) {
                b.good(LAW, "y:" + letter);
                b.bad(LAW, "y:" + letter + letter, 3);
            } else {
                b.bad(LAW, "y:" + letter, 2);
            }
        }
        b.good(LAW, "y:[1]");
        b.bad(LAW, "y:[]", 3);
        b.bad(LAW, "y:[1", 4);
        b.bad(LAW, "y:1]", 3);
    }

    /** What waking by hand costs a SLEEPER with NERVES 3 under a LAW. */
    private void worth(String law, int want) {
        b.answers("WORTH of " + law, () -> Worlds.car("p;o", law), x -> x.wake(0), want);
    }

    private void conditions() {
        int[][] leftEqualLessMore = {{2, 0, 1, 0}, {3, 1, 0, 0}, {4, 0, 0, 1}};
        for (int[] row : leftEqualLessMore) {
            worth("y:" + row[0] + "=n?1;y:0", row[1]);
            worth("y:" + row[0] + "<n?1;y:0", row[2]);
            worth("y:" + row[0] + ">n?1;y:0", row[3]);
            worth("y:!" + row[0] + "=n?1;y:0", 1 - row[1]);
        }
        for (int left = 0; left <= 1; left++) {
            for (int right = 0; right <= 1; right++) {
                worth("y:1=" + left + "&1=" + right + "?1;y:0", left & right);
                worth("y:1=" + left + "|1=" + right + "?1;y:0", left | right);
                worth("y:!1=" + left + "&1=" + right + "?1;y:0", (1 - left) & right);
                worth("y:!(1=" + left + "&1=" + right + ")?1;y:0", 1 - (left & right));
                worth("y:1=1|1=" + left + "&1=" + right + "?1;y:0", 1);
                worth("y:(1=1|1=" + left + ")&1=" + right + "?1;y:0", right);
            }
        }
        worth("y:n<4&n>2&n=3?1;y:0", 1);
        worth("y:!n<4?1;y:0", 0);
        worth("y:!n>2?1;y:0", 0);
        worth("y:!!n<4&!!n>2?1;y:0", 1);
        worth("y:n<3|n>3?1;y:0", 0);
        worth("y:!(n<3|n>3)?1;y:0", 1);
        b.bad(LAW, "y:n?1", 3);
        b.bad(LAW, "y:n=1=1?1", 5);
        b.bad(LAW, "y:n=1&?1", 6);
        b.bad(LAW, "y:n=1|?1", 6);
        b.bad(LAW, "y:n==1?1", 4);
    }

    private void clauseWithCondition() {
        b.good(LAW, "y:!n=1?2");
        b.good(LAW, "y:(n=1)?2");
        b.good(LAW, "y:[n]=1?2");
        b.bad(LAW, "y:!n", 4);
        b.bad(LAW, "y:!1?2", 4);
        b.bad(LAW, "y:!n=1", 6);
        b.bad(LAW, "y:(n)", 4);
        b.bad(LAW, "y:(n+1)*2", 6);
        b.bad(LAW, "y:(n=1)", 7);
        b.bad(LAW, "y:(n=1)+2", 7);
        b.bad(LAW, "y:n=1?(2)", 6);
        b.bad(LAW, "y:n=1?!2", 6);
    }

    private void sixWithinOneAnother() {
        for (int outer = 0; outer <= 7; outer++) {
            for (int signs = 0; signs < 1 << outer; signs++) {
                if (outer < 7) {
                    b.good(LAW, nested(outer, signs, 6 - outer));
                }
                b.bad(LAW, nested(outer, signs, 7 - outer), 8);
            }
        }
        b.good(LAW, "y:[[[[[[1]]]]]]");
        b.bad(LAW, "y:[[[[[[[1]]]]]]]", 8);
        b.good(LAW, "y:n=[[[[[[1]]]]]]?1");
        b.bad(LAW, "y:n=[[[[[[[1]]]]]]]?1", 10);
        b.good(LAW, "y:((((((n=1))))))?[[[[[[1]]]]]]");
        b.good(LAW, "y:[1]+[1]+[1]+[1]+[1]+[1]+[1]+[1]");
        b.good(LAW, "y:!n=1&!n=1&!n=1&!n=1&(n=1)&(n=1)&(n=1)&(n=1)?1");
    }

    /** Signs by bits, the outermost first: 0 is !, 1 is (; then brackets within. */
    private static String nested(int outer, int signs, int brackets) {
        StringBuilder text = new StringBuilder("y:");
        for (int i = 0; i < outer; i++) {
            text.append((signs >> i & 1) == 0 ? '!' : '(');
        }
        text.append("[".repeat(brackets)).append('n').append("]".repeat(brackets)).append("=1");
        return text.append(")".repeat(Integer.bitCount(signs))).append("?1").toString();
    }

    private void withinAMillion() {
        String back = "-9999*100-9";
        worth("y:1000*1000-1" + back, 90);
        worth("y:1000*1000" + back, 91);
        worth("y:1000*1000+1" + back, 91);
        worth("y:1000*1001" + back, 91);
        worth("y:9999*9999*9999*9999" + back, 91);
        worth("y:[0-9999]*[0-9999]" + back, 91);
        worth("y:9999*9999-[0-9999]*9999" + back, 91);
        String on = "+9999*100+150";
        worth("y:[0-1000]*1000+1" + on, 51);
        worth("y:[0-1000]*1000" + on, 50);
        worth("y:[0-1000]*1000-1" + on, 50);
        worth("y:[0-1000]*1001" + on, 50);
        worth("y:[0-9999]*9999*9999*9999" + on, 50);
        worth("y:[0-9999]*9999+[0-9999]*9999" + on, 50);
        worth("y:1000*1000*1000/1000/100", 10);
        worth("y:1000*1000+1=1000*1000?7;y:8", 7);
        worth("y:1000*1000-1=1000*1000?7;y:8", 8);
        worth("y:0-1000*1000-1<[0-1000]*1000?7;y:8", 8);
    }

    private void division() {
        worth("y:7/2", 3);
        worth("y:1/2", 0);
        worth("y:10+[0-7]/2", 7);
        worth("y:10+7/[0-2]", 7);
        worth("y:10+[0-7]/[0-2]", 13);
        worth("y:10+[0-1]/2", 10);
        worth("y:7/1", 7);
        worth("y:7/0", 0);
        worth("y:10+7/0", 10);
        worth("y:10+0/0", 10);
        worth("y:10+7/[n-n]", 10);
        worth("y:7/0+4", 4);
        worth("y:7/[1/2]", 0);
    }

    private void firstClauseThatHolds() {
        worth("y:7;y:8", 7);
        worth("y:n=3?7;y:8", 7);
        worth("y:n=4?7;y:8", 8);
        worth("y:n=4?7;y:n=3?8;y:n=3?9", 8);
        worth("y:n=4?7", 0);
        worth("y:n=4?7;y:n=2?8", 0);
        worth("y:n<3?7;y:n>3?8", 0);
        worth("y:n<4?7", 7);
        worth("y:n>2?7", 7);
    }

    private void lines() {
        b.terms(5, "LINES (4 at most) are TEXTS", this::fourLines);
        b.terms(4, "STEPS with ; between, 1 to 16", this::oneToSixteenSteps);
        b.terms(4, "m and two digits (SLEEPER, place: its paper is MOVED there), y and two digits (SLEEPER, 0 .. 2: "
                + "what is SAID for it), w and a digit (it is WOKEN), l and a digit (it LIES down), x and two digits "
                + "(two SLEEPERS SWAP berths), b and a digit (a BORDER by that OFFICER)", this::digitsOfSteps);
    }

    private void fourLines() {
        b.answers("the first LINES", WokenBorder::new, x -> Due.tell(x, LINES, "b0"), 0);
        b.answers("the fourth LINES", () -> Worlds.withLines(3), x -> Due.tell(x, LINES, "b0"), 3);
        b.answers("they can be DONE", () -> Worlds.withLines(4), x -> x.perform(3), 2);
        b.refused("there are no fifth ones to be DONE", () -> Worlds.withLines(4), x -> x.perform(4), NONE);
        b.refused("nor to be RUN", () -> Worlds.withLines(4), x -> x.run(4, 0), HIDDEN);
        b.refused("nor to be seen", () -> Worlds.withLines(4), x -> x.step(4, 0, 0), HIDDEN);
        b.refused("fifth LINES", () -> Worlds.withTape(Worlds.withLines(4), "b0"), x -> x.text(LINES), NONE);
    }

    private void oneToSixteenSteps() {
        String sixteen = "w0;".repeat(15) + "w0";
        b.bad(LINES, "", 0);
        b.good(LINES, "w0");
        b.good(LINES, "w0;w0");
        b.good(LINES, sixteen);
        b.bad(LINES, "w0;", 3);
        b.bad(LINES, ";w0", 0);
        b.bad(LINES, sixteen + ";w0", 47);
        b.answers("the 16th", () -> told(LINES, sixteen), x -> x.step(0, 15, 0), 2);
    }

    private static WokenBorder told(int sort, String text) {
        WokenBorder x = new WokenBorder();
        Due.tell(x, sort, text);
        return x;
    }

    private void digitsOfSteps() {
        for (char two : "myx".toCharArray()) {
            b.bad(LINES, "" + two, 1);
            b.bad(LINES, two + "9", 2);
            b.good(LINES, two + "92");
            b.good(LINES, two + "00");
            b.bad(LINES, two + "000", 3);
        }
        for (char one : "wlb".toCharArray()) {
            b.bad(LINES, "" + one, 1);
            b.good(LINES, one + "0");
            b.good(LINES, one + "9");
            b.bad(LINES, one + "00", 2);
        }
        b.good(LINES, "m99;x99");
        b.bad(LINES, "m9;w0", 2);
        b.bad(LINES, "z00", 0);
    }

    private void blanksAndFaults() {
        b.terms(4, "Blanks (32) may stand between all signs of these, not within numbers (between the digits of a STEP "
                + "they may).", this::blanks);
        b.terms(4, "FAULT: the first byte at which no such TEXT can go on (the length, if it ends too early, without a "
                + "SLEEPER that is no CHILD, or an OFFICER)", this::lengthIfTooEarly);
        b.terms(4, "a number out of bounds is wrong at its last digit", this::outOfBoundsAtLastDigit);
        b.terms(4, "a third digit (whatever stands ahead of it; a fifth one in a LAW) itself", this::thirdDigit);
        b.terms(4, "a letter that was there", this::letterThatWasThere);
        b.terms(4, "a second s", this::secondRules);
        b.terms(4, "a tenth p", this::tenthSleeper);
        b.terms(4, "a fifth o, ", this::fifthOfficer);
        b.terms(4, "the ; ahead of a 17th STEP", this::seventeenthStep);
        b.terms(4, "a digit 3 .. 9 of what is SAID", this::digitOfWhatIsSaid);
        b.terms(4, "a seventh of ( [ ! in a LAW at it.", this::seventhSign);
        b.terms(22, "(A SLEEPER, a place, an OFFICER of a STEP that is not there is no FAULT: the STEP can't be.)",
                this::stepOfNobody);
    }

    private void blanks() {
        b.good(CAR, " s a 1 g 20 ; p t 3 ; o ");
        b.good(CAR, "p" + " ".repeat(237) + ";o");
        b.bad(CAR, "sa1 0;p;o", 4);
        b.bad(CAR, "pt1 2;o", 4);
        b.good(LAW, " y : [ n + 10 ] = 1 ? 2 ; y : ! ( n > 1 ) ? 3 ");
        b.bad(LAW, "y:1 0", 4);
        b.good(LINES, " m 1  2 ; w 3 ");
        b.bad(LINES, "m 1 2 3", 6);
        b.bad(CAR, "p" + (char) 31 + ";o", 1);
        b.bad(CAR, "p" + (char) 33 + ";o", 1);
        b.bad(CAR, "p" + (char) 9 + ";o", 1);
        b.bad(CAR, "p;o" + (char) 160, 3);
    }

    private void lengthIfTooEarly() {
        prefixes(CAR, "sa12;pc1;pt3 ;o k5", Set.of(15, 16, 18));
        prefixes(LAW, "y:n=1?2;y:!(w<[3])?45", Set.of(3, 7, 20, 21));
        prefixes(LINES, "m01;w2 ;y 3 2;b4", Set.of(3, 6, 7, 13, 16));
        b.bad(CAR, "", 0);
        b.bad(LAW, " ", 1);
        b.bad(LINES, "  ", 2);
        b.good(CAR, "pc0;o");
        b.bad(CAR, "pc1;o", 5);
        b.good(CAR, "pc1;o;p");
        b.bad(CAR, "pc1;pc1;o", 9);
        b.bad(CAR, "pc1;".repeat(9) + "o", 37);
        b.good(CAR, "pc1;".repeat(8) + "p;o");
        b.bad(CAR, "s;p", 3);
        b.bad(CAR, "p ; s  ", 7);
    }

    /** Each beginning of a TEXT that is none itself ends too early. */
    private void prefixes(int sort, String text, Set<Integer> whole) {
        for (int n = 0; n <= text.length(); n++) {
            if (whole.contains(n)) {
                b.good(sort, text.substring(0, n));
            } else {
                b.bad(sort, text.substring(0, n), n);
            }
        }
    }

    private void outOfBoundsAtLastDigit() {
        b.good(CAR, "sa60;p;o");
        b.bad(CAR, "sa61;p;o", 3);
        b.bad(CAR, "sa61", 3);
        b.bad(CAR, "sa61 ;p;o", 3);
        b.bad(CAR, "sa61a61", 3);
        b.good(CAR, "sa1;p;o");
        b.bad(CAR, "sa0;p;o", 2);
        b.bad(CAR, "sa00;p;o", 3);
        b.bad(CAR, "sa 00 x", 4);
        b.good(CAR, "p;ow9");
        b.bad(CAR, "p;ow10", 5);
        b.bad(CAR, "p;ow10;x", 5);
    }

    private void thirdDigit() {
        b.good(CAR, "sg99;p;o");
        b.bad(CAR, "sg990;p;o", 4);
        b.bad(CAR, "sg000;p;o", 4);
        b.bad(CAR, "sg0001;p;o", 4);
        b.bad(CAR, "sa610;p;o", 4);
        b.bad(CAR, "sa000;p;o", 4);
        b.bad(CAR, "pt123;o", 4);
        b.bad(CAR, "pt12 3;o", 3);
        b.good(LAW, "y:9999");
        b.bad(LAW, "y:99990", 6);
        b.bad(LAW, "y:00000", 6);
        b.bad(LAW, "y:n=12345?1", 8);
        b.bad(LAW, "y:9999 0", 7);
    }

    private void letterThatWasThere() {
        b.good(CAR, "pt1l1;o");
        b.bad(CAR, "pt1l1t1;o", 5);
        b.bad(CAR, "pt1 t", 4);
        b.bad(CAR, "pt1tx", 3);
        b.good(CAR, "pt1;pt1;ot1");
        b.bad(CAR, "p;ok1k1", 5);
        b.bad(CAR, "p;o;sc1e1c1", 9);
    }

    private void secondRules() {
        b.good(CAR, "s;p;o");
        b.bad(CAR, "s;p;o;s", 6);
        b.bad(CAR, "s ;  sa1", 5);
    }

    private void tenthSleeper() {
        String nine = "p;p;p;p;p;p;p;p;p";
        b.good(CAR, nine + ";o");
        b.bad(CAR, nine + ";p;o", 18);
        b.bad(CAR, nine + ";o; p", 21);
    }

    private void fifthOfficer() {
        String four = "p;o;o;o;o";
        b.good(CAR, four);
        b.bad(CAR, four + ";o", 10);
        b.bad(CAR, four + ";p; o", 13);
    }

    private void seventeenthStep() {
        String sixteen = "x01;".repeat(15) + "x01";
        b.good(LINES, sixteen);
        b.bad(LINES, sixteen + ";x01", 63);
        b.bad(LINES, sixteen + ";", 63);
        b.bad(LINES, sixteen + " ;z", 64);
    }

    private void digitOfWhatIsSaid() {
        for (int said = 0; said <= 2; said++) {
            b.good(LINES, "y9" + said);
        }
        for (int said = 3; said <= 9; said++) {
            b.bad(LINES, "y0" + said, 2);
        }
        b.bad(LINES, "w0;y 0 3", 7);
        b.good(LINES, "m03;x09");
    }

    private void seventhSign() {
        b.good(LAW, "y:!!!!!!n=1?1");
        b.bad(LAW, "y:!!!!!!!n=1?1", 8);
        b.bad(LAW, "y:(((((( ( n=1?1", 9);
        b.bad(LAW, "y:((((((n=[1]))))))?1", 10);
        b.bad(LAW, "y:[[[[[[[", 8);
    }

    private void stepOfNobody() {
        for (String lines : new String[] {"w4", "l4", "m40", "m03", "m09", "y41", "x04", "x40", "b2", "b9"}) {
            b.good(LINES, lines);
            b.answers("run of " + lines, () -> Worlds.livedWith(lines), x -> x.run(1, 0), 0);
            b.refused("perform of " + lines, () -> Worlds.livedWith(lines), x -> x.perform(1), 0);
        }
        for (String lines : new String[] {"w3", "l0", "m32", "y31", "x03", "b1"}) {
            b.answers("perform of " + lines, () -> Worlds.livedWith(lines), x -> x.perform(1), 1);
        }
    }
}
