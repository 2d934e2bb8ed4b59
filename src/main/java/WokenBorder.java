import java.util.Arrays;
import java.util.NoSuchElementException;

/**
 * A sleeping car at the border. Words in capitals in the comments are the document's own.
 *
 * Every row is made in a constructor and used again, since all calls of a run share one room.
 */
public final class WokenBorder {

    public static final int NONE = -1;
    public static final int HIDDEN = -1000000;

    private static final int SORT_CAR = 0;
    private static final int SORT_LAW = 1;
    private static final int SORT_LINES = 2;
    private static final int NO_SORT = -2;

    private static final int MOST_NIGHTS = 20;
    private static final int MOST_FAVOURS = 9;
    private static final int MOST_DROWSY = 99;
    private static final int MOST_TENS_HEARD = 999;

    private final Tape tape = new Tape();
    private final Shelf shelf = new Shelf();
    private final Car draft = new Car();
    private final Car car = new Car();
    private final Scene scene = new Scene();
    private final Scene trial = new Scene();
    private final House house = new House(car);
    private final Memory memory = new Memory();
    private final Orders orders = new Orders(car, house, scene);
    private final Advice advice = new Advice(car, house, scene);
    private final Guesses guesses = new Guesses(car, house, scene);
    private int drowsiness = 50;
    private int lawHeld = NONE;
    private long chance;

    public WokenBorder() {
    }

    public int feed(int a, int b, int c, int d, int e) {
        int more = Tape.signsIn(a) + Tape.signsIn(b) + Tape.signsIn(c) + Tape.signsIn(d) + Tape.signsIn(e);
        if (tape.size() + more > Tape.MOST) {
            return NONE;
        }
        tape.add(a);
        tape.add(b);
        tape.add(c);
        tape.add(d);
        tape.add(e);
        return tape.size();
    }

    public boolean end(int n) {
        if (n < 0 || n > tape.size()) {
            return false;
        }
        tape.cut(n);
        return true;
    }

    public int fault(int sort) {
        if (sort < SORT_CAR || sort > SORT_LINES) {
            return NO_SORT;
        }
        return canRead(sort) ? NONE : tape.at();
    }

    public int text(int sort) {
        if (sort < SORT_CAR || sort > SORT_LINES || !canRead(sort)) {
            return NONE;
        }
        int answer;
        if (sort == SORT_CAR) {
            answer = board();
        } else {
            answer = sort == SORT_LAW ? shelf.keepLaw() : shelf.keepLines();
        }
        if (answer != NONE) {
            tape.cut(0);
        }
        return answer;
    }

    public int rule(int what) {
        if (noCar() || what < 0 || what >= Car.RULES) {
            return NONE;
        }
        return what == Car.COFFEES ? scene.coffees() : car.ruleOf(what);
    }

    public int sleeper(int sleeper, int what) throws NoSuchElementException {
        if (!car.hasSleeper(sleeper) || what < 0 || what > 10) {
            throw new NoSuchElementException("no such sleeper, or nothing like that of one");
        }
        switch (what) {
            case 6:
                return scene.berthOf(sleeper);
            case 7:
                return scene.placeOf(sleeper, car.papers());
            case 8:
                return scene.saidFor(sleeper);
            case 9:
                return scene.isAsleep(sleeper) ? 1 : 0;
            case 10:
                return scene.lostBy(sleeper);
            default:
                return car.ofSleeper(sleeper, what);
        }
    }

    public int officer(int officer, int what) {
        if (!car.hasOfficer(officer) || what < 0 || what >= Car.OF_OFFICER) {
            return NONE;
        }
        return car.ofOfficer(officer, what);
    }

    public boolean law(int law) {
        if (law < NONE || law >= shelf.lawCount()) {
            return false;
        }
        lawHeld = law;
        house.hold(shelf.lawAt(law));
        return true;
    }

    public boolean drowsy(int v) {
        if (v < 0 || v > MOST_DROWSY || v == drowsiness) {
            return false;
        }
        drowsiness = v;
        return true;
    }

    public int move(int sleeper, int place) {
        return act(Lines.MOVE, sleeper, place);
    }

    public int say(int sleeper, int what) {
        return act(Lines.SAY, sleeper, what);
    }

    public int wake(int sleeper) {
        return act(Lines.WAKE, sleeper, NONE);
    }

    public int lie(int sleeper) {
        return act(Lines.LIE, sleeper, NONE);
    }

    public int swap(int one, int other) {
        return act(Lines.SWAP, one, other) == NONE ? NONE : memory.acts();
    }

    public int border(int officer) {
        return act(Lines.BORDER, officer, NONE);
    }

    public int nights(int n, long seed) {
        if (noCar() || n < 1 || n > MOST_NIGHTS) {
            return NONE;
        }
        chance = seed;
        for (int night = 0; night < n; night++) {
            memory.note(scene);
            spendNight();
            memory.keepAct();
        }
        return memory.logged(scene);
    }

    public int undo() {
        return memory.takeBack(scene) ? memory.acts() : NONE;
    }

    public int log(int i, int what) {
        if (i < 0 || i >= memory.logged(scene) || what < 0 || what >= Memory.LOG_WIDTH) {
            return NONE;
        }
        return memory.logEntry(scene, i, what);
    }

    public int step(int lines, int i, int what) {
        Lines script = shelf.linesAt(lines);
        if (script == null || i < 0 || i >= script.size() || what < 0 || what >= Lines.WIDTH) {
            return HIDDEN;
        }
        return script.part(i, what);
    }

    public int run(int lines, int what) {
        Lines script = shelf.linesAt(lines);
        if (script == null || noCar() || what < 0 || what > 1) {
            return HIDDEN;
        }
        trial.copyFrom(scene);
        int done = 0;
        while (done < script.size() && house.done(trial, script.part(done, 0), script.part(done, 1),
                script.part(done, 2)) != NONE) {
            done++;
        }
        if (what == 1) {
            return trial.lostInAll() - scene.lostInAll();
        }
        return done == script.size() ? NONE : done;
    }

    public int perform(int lines) {
        Lines script = shelf.linesAt(lines);
        if (script == null || noCar()) {
            return NONE;
        }
        int done = 0;
        while (done < script.size()
                && act(script.part(done, 0), script.part(done, 1), script.part(done, 2)) != NONE) {
            done++;
        }
        return done;
    }

    public int time(int officer, int what) {
        if (!car.hasOfficer(officer) || what < 0 || what > 1) {
            return NONE;
        }
        int tens = house.pass(scene, officer, false);
        return what == 0 ? tens : house.sleepLost();
    }

    public int order(int officer, int what) {
        if (!car.hasOfficer(officer) || what < 0 || what > 1) {
            return NONE;
        }
        if (car.papers() > Orders.MOST) {
            return HIDDEN;
        }
        orders.findSoonest(officer);
        return what == 0 ? orders.digits() : orders.worth();
    }

    public int bound(int officer) {
        return car.hasOfficer(officer) ? orders.leastPossible(officer) : NONE;
    }

    public int before(int what) {
        if (noCar() || what < 0 || what > 1 || !advice.findWhomToWake()) {
            return NONE;
        }
        return what == 0 ? advice.answer() : advice.worth();
    }

    public int words(int what) {
        if (noCar() || what < 0 || what > 1 || !advice.findWords()) {
            return NONE;
        }
        return what == 0 ? advice.answer() : advice.worth();
    }

    public int tonight(int officer) {
        return car.hasOfficer(officer) ? guesses.chanceOf(officer) : NONE;
    }

    public int hear(boolean faces, int tens) {
        if (noCar() || tens < 0 || tens > MOST_TENS_HEARD) {
            return NONE;
        }
        return guesses.addHeard(faces, tens);
    }

    public int lookAt(int berth, boolean same) {
        return car.hasSleeper(berth) ? guesses.addLook(berth, same) : NONE;
    }

    public int fit(int i) {
        return noCar() ? NONE : guesses.fitting(i);
    }

    public int best() {
        return noCar() ? NONE : guesses.bestBerth();
    }

    public int heads(int n, int i) {
        if (noCar() || n < 0 || n > Car.MOST_SLEEPERS) {
            return NONE;
        }
        return guesses.headSets(n, i);
    }

    public int give(int what) {
        if (noCar() || what < 0 || what > 1) {
            return NONE;
        }
        if (car.sleepers() > Orders.MOST) {
            return HIDDEN;
        }
        orders.findBerths();
        return what == 0 ? orders.digits() : orders.worth();
    }

    public int between() {
        if (noCar()) {
            return NONE;
        }
        int keptUp = 0;
        for (int who = 0; who < car.sleepers(); who++) {
            if (!scene.isAsleep(who) && house.lossByHand(scene, who) > car.ruleOf(Car.BETWEEN)) {
                keptUp |= 1 << who;
            }
        }
        return keptUp;
    }

    public int favour(int officer, int n, int x, int y, int what) {
        boolean choices = (x == 0 || x == 1) && (y == 0 || y == 1);
        if (!car.hasOfficer(officer) || n < 1 || n > MOST_FAVOURS || !choices || what < 0 || what > 1) {
            return HIDDEN;
        }
        return what == 0 ? houseHas(officer, n, x, y) : officerHas(n, x, y);
    }

    public int rests(int officer, int n, int i) {
        if (!car.hasOfficer(officer) || n < 1 || n > MOST_FAVOURS) {
            return NONE;
        }
        int found = 0;
        for (int x = 0; x <= 1; x++) {
            for (int y = 0; y <= 1; y++) {
                boolean houseStays = houseHas(officer, n, x, y) >= houseHas(officer, n, 1 - x, y);
                if (houseStays && officerHas(n, x, y) >= officerHas(n, x, 1 - y)) {
                    if (found == i) {
                        return 10 * x + y;
                    }
                    found++;
                }
            }
        }
        return i == NONE ? found : NONE;
    }

    public int which(int sleepers) {
        if (noCar() || sleepers < 0 || sleepers >= 1 << car.sleepers()) {
            return NONE;
        }
        return guesses.officersWaking(sleepers);
    }

    public int woken(int sleeper) {
        return car.hasSleeper(sleeper) ? scene.timesWoken(sleeper) : NONE;
    }

    public int tired() {
        int most = 0;
        int tiredest = NONE;
        for (int who = 0; who < car.sleepers(); who++) {
            if (scene.lostBy(who) > most) {
                most = scene.lostBy(who);
                tiredest = who;
            }
        }
        return tiredest;
    }

    public int beside(int sleeper) {
        if (!car.hasSleeper(sleeper)) {
            return NONE;
        }
        int neighbours = 0;
        for (int who = 0; who < car.sleepers(); who++) {
            if (scene.areBeside(who, sleeper)) {
                neighbours |= 1 << who;
            }
        }
        return neighbours;
    }

    public int slack(int officer) {
        return car.hasOfficer(officer) ? car.allowedTens() - house.pass(scene, officer, false) : HIDDEN;
    }

    public int longest(int officer) {
        if (!car.hasOfficer(officer)) {
            return NONE;
        }
        house.pass(scene, officer, false);
        return house.lastFetched();
    }

    public int image() {
        if (noCar()) {
            return NONE;
        }
        memory.keepImage(scene);
        return scene.asleepInAll();
    }

    public int back() {
        return memory.restoreImage(scene) ? scene.asleepInAll() : NONE;
    }

    public int count(int what) {
        switch (what) {
            case 0:
                return car.sleepers();
            case 1:
                return car.officers();
            case 2:
                return shelf.lawCount();
            case 3:
                return shelf.linesCount();
            case 4:
                return tape.size();
            case 5:
                return lawHeld;
            case 6:
                return car.papers();
            case 7:
                return scene.asleepInAll();
            case 8:
                return drowsiness;
            case 9:
                return guesses.heard();
            case 10:
                return guesses.looks();
            case 11:
                return memory.logged(scene);
            case 12:
                return memory.acts();
            case 13:
                return scene.lostInAll();
            default:
                return HIDDEN;
        }
    }

    private boolean noCar() {
        return car.sleepers() == 0;
    }

    private boolean canRead(int sort) {
        if (sort == SORT_CAR) {
            return draft.read(tape);
        }
        return sort == SORT_LAW ? shelf.lawDraft().read(tape) : shelf.linesDraft().read(tape);
    }

    /** The draft becomes the CAR; what belonged to the one ahead goes. */
    private int board() {
        car.copyFrom(draft);
        scene.begin(car);
        memory.clear();
        guesses.clear();
        return car.sleepers();
    }

    /** An ACT by hand: NONE, and nothing kept, if it can't be. */
    private int act(int kind, int first, int second) {
        memory.note(scene);
        int answer = house.done(scene, kind, first, second);
        if (answer != NONE) {
            memory.keepAct();
            if (kind == Lines.BORDER) {
                writeLog(first, answer);
            }
        }
        return answer;
    }

    private void writeLog(int officer, int tens) {
        memory.write(scene, officer, tens, tens > car.allowedTens() ? 1 : 0, house.sleepLost());
    }

    private void spendNight() {
        int officer = drawOfficer();
        writeLog(officer, house.pass(scene, officer, true));
        for (int who = 0; who < car.sleepers(); who++) {
            if (!scene.isAsleep(who) && draw(100) < drowsiness) {
                scene.layDown(who);
            }
        }
    }

    private int drawOfficer() {
        int all = car.allWeights();
        if (all == 0) {
            return 0;
        }
        int drawn = draw(all);
        int officer = 0;
        while (officer + 1 < car.officers() && drawn >= car.ofOfficer(officer, Car.WEIGHT)) {
            drawn -= car.ofOfficer(officer, Car.WEIGHT);
            officer++;
        }
        return officer;
    }

    private int draw(int m) {
        chance = chance * 6364136223846793005L + 1442695040888963407L;
        return m < 1 ? 0 : (int) ((chance >>> 33) % m);
    }

    private int houseHas(int officer, int n, int x, int y) {
        int has = 0;
        if (x == 1) {
            has -= 2 * n;
            if (y == 0) {
                has += car.ofOfficer(officer, Car.COFFEE_WORTH) * (n - 1);
            }
        }
        if (y == 1) {
            has -= house.lossOfAllByHand(scene) / 10 * n;
        }
        return has;
    }

    private static int officerHas(int n, int x, int y) {
        return 3 * n * x + n * y - 2 * n * x * y;
    }

    /** The bytes that were fed, and how far a reader has come in them: it stays at the FAULT. */
    private static final class Tape {
        static final int MOST = 240;
        static final int END = -1;

        private final int[] signs = new int[MOST];
        private int size;
        private int at;

        static int signsIn(int four) {
            int many = 0;
            for (int shift = 24; shift >= 0; shift -= 8) {
                if ((four >>> shift & 255) != 0) {
                    many++;
                }
            }
            return many;
        }

        void add(int four) {
            for (int shift = 24; shift >= 0; shift -= 8) {
                int sign = four >>> shift & 255;
                if (sign != 0 && size < MOST) {
                    signs[size] = sign;
                    size++;
                }
            }
        }

        int size() {
            return size;
        }

        void cut(int n) {
            size = n;
        }

        int at() {
            return at;
        }

        void rewind() {
            at = 0;
        }

        /** The next sign behind blanks, not taken yet. */
        int ahead() {
            while (at < size && signs[at] == ' ') {
                at++;
            }
            return at < size ? signs[at] : END;
        }

        void pass() {
            if (at < size) {
                at++;
            }
        }

        boolean takes(int sign) {
            if (ahead() != sign) {
                return false;
            }
            pass();
            return true;
        }

        int digit() {
            ahead();
            if (!atDigit()) {
                return NONE;
            }
            int value = signs[at] - '0';
            at++;
            return value;
        }

        /** NONE: no digit is here, or one too many, at which the reader stays then. */
        int number(int mostDigits) {
            ahead();
            int value = atDigit() ? 0 : NONE;
            for (int digits = 0; digits < mostDigits && atDigit(); digits++) {
                value = 10 * value + signs[at] - '0';
                at++;
            }
            return atDigit() ? NONE : value;
        }

        void stayAtLastDigit() {
            if (at > 0) {
                at--;
            }
        }

        private boolean atDigit() {
            return at < size && signs[at] >= '0' && signs[at] <= '9';
        }
    }

    /** The CAR as it was told; what changes later is in the Scene. */
    private static final class Car {
        static final int MOST_SLEEPERS = 9;
        static final int MOST_OFFICERS = 4;

        static final int RULES = 4;
        static final int ALLOWED = 0;
        static final int BETWEEN = 1;
        static final int COFFEES = 2;
        static final int LONGER = 3;

        static final int OF_SLEEPER = 6;
        static final int STAMP = 0;
        static final int LACKS = 1;
        static final int NERVES = 2;
        static final int SNORES = 3;
        static final int FACE = 4;
        static final int CHILD = 5;

        static final int OF_OFFICER = 4;
        static final int WEIGHT = 0;
        static final int LOOKS = 1;
        static final int FACE_TENS = 2;
        static final int COFFEE_WORTH = 3;

        // ITEMS of s, then of p, then of o: each sort's stand at its first.
        private static final String LETTERS = "agcetlnsfcwftk";
        private static final int[] LOWEST = {1, 0, 0, 0, 1, 0, 0, 0, 0, 0, 0, 0, 0, 0};
        private static final int[] HIGHEST = {60, 99, 9, 9, 9, 9, 9, 9, 9, 1, 9, 1, 9, 9};
        private static final int[] WITHOUT = {11, 20, 2, 3, 2, 0, 3, 0, 0, 0, 1, 0, 1, 1};
        private static final int FIRST_OF_RULES = 0;
        private static final int FIRST_OF_SLEEPER = 4;
        private static final int FIRST_OF_OFFICER = 10;

        private final int[] rules = new int[RULES];
        private final int[] ofSleepers = new int[MOST_SLEEPERS * OF_SLEEPER];
        private final int[] ofOfficers = new int[MOST_OFFICERS * OF_OFFICER];
        private int sleepers;
        private int officers;
        private int papers;

        int sleepers() {
            return sleepers;
        }

        int officers() {
            return officers;
        }

        int papers() {
            return papers;
        }

        boolean hasSleeper(int who) {
            return who >= 0 && who < sleepers;
        }

        boolean hasOfficer(int officer) {
            return officer >= 0 && officer < officers;
        }

        int ruleOf(int what) {
            return rules[what];
        }

        int allowedTens() {
            return 6 * rules[ALLOWED];
        }

        int ofSleeper(int who, int what) {
            return ofSleepers[who * OF_SLEEPER + what];
        }

        int ofOfficer(int officer, int what) {
            return ofOfficers[officer * OF_OFFICER + what];
        }

        boolean hasPaper(int who) {
            return hasSleeper(who) && ofSleeper(who, CHILD) == 0;
        }

        /** Whether there is something to be fetched for it: nobody asks it of a CHILD. */
        boolean isLacking(int who) {
            return hasPaper(who) && ofSleeper(who, LACKS) > 0;
        }

        boolean looksAtFaces(int officer) {
            return ofOfficer(officer, LOOKS) == 1;
        }

        int allWeights() {
            int all = 0;
            for (int officer = 0; officer < officers; officer++) {
                all += ofOfficer(officer, WEIGHT);
            }
            return all;
        }

        void copyFrom(Car other) {
            System.arraycopy(other.rules, 0, rules, 0, rules.length);
            System.arraycopy(other.ofSleepers, 0, ofSleepers, 0, ofSleepers.length);
            System.arraycopy(other.ofOfficers, 0, ofOfficers, 0, ofOfficers.length);
            sleepers = other.sleepers;
            officers = other.officers;
            papers = other.papers;
        }

        /** False: the TAPE has a FAULT, and its reader is at it. */
        boolean read(Tape tape) {
            System.arraycopy(WITHOUT, FIRST_OF_RULES, rules, 0, RULES);
            sleepers = 0;
            officers = 0;
            boolean told = false;
            tape.rewind();
            for (int clause = 0; clause <= Tape.MOST; clause++) {
                int kind = tape.ahead();
                if (!readClause(tape, kind, told)) {
                    return false;
                }
                told = told || kind == 's';
                if (tape.ahead() == Tape.END) {
                    papers = countPapers();
                    return papers > 0 && officers > 0;
                }
                if (!tape.takes(';')) {
                    return false;
                }
            }
            return false;
        }

        private boolean readClause(Tape tape, int kind, boolean told) {
            if (kind == 's' && !told) {
                tape.pass();
                return readItems(tape, rules, 0, FIRST_OF_RULES, RULES);
            }
            if (kind == 'p' && sleepers < MOST_SLEEPERS) {
                tape.pass();
                sleepers++;
                return readItems(tape, ofSleepers, (sleepers - 1) * OF_SLEEPER, FIRST_OF_SLEEPER, OF_SLEEPER);
            }
            if (kind == 'o' && officers < MOST_OFFICERS) {
                tape.pass();
                officers++;
                return readItems(tape, ofOfficers, (officers - 1) * OF_OFFICER, FIRST_OF_OFFICER, OF_OFFICER);
            }
            return false;
        }

        private static boolean readItems(Tape tape, int[] row, int from, int first, int many) {
            System.arraycopy(WITHOUT, first, row, from, many);
            int seen = 0;
            for (int turn = 0; turn <= many; turn++) {
                int item = itemOf(tape.ahead(), first, many);
                if (item == NONE) {
                    return true;
                }
                if ((seen >> item & 1) == 1) {
                    return false;
                }
                seen |= 1 << item;
                tape.pass();
                int value = tape.number(2);
                if (value == NONE) {
                    return false;
                }
                if (value < LOWEST[first + item] || value > HIGHEST[first + item]) {
                    tape.stayAtLastDigit();
                    return false;
                }
                row[from + item] = value;
            }
            return false;
        }

        private static int itemOf(int sign, int first, int many) {
            for (int item = 0; item < many; item++) {
                if (LETTERS.charAt(first + item) == sign) {
                    return item;
                }
            }
            return NONE;
        }

        private int countPapers() {
            int many = 0;
            for (int who = 0; who < sleepers; who++) {
                if (hasPaper(who)) {
                    many++;
                }
            }
            return many;
        }
    }

    /** A LAW as codes in the order in which they are worked out: no text is read at each waking. */
    private static final class Law {
        static final int LETTERS_MANY = 6;
        private static final String LETTERS = "nwtcos";
        private static final int DEEPEST = 6;
        private static final int MOST_DIGITS = 4;
        private static final int MOST_WORTH = 1000000;

        // Codes: a number itself; a letter -1 .. -6; a sign as minus its byte; and these two.
        private static final int DONE = -7;
        private static final int SKIP = -1000;

        // Six of ( [ ! hold two unfinished values each at most, and a CLAUSE six of its own.
        private static final int MOST_STACK = 32;

        private final int[] codes = new int[Tape.MOST];
        private final int[] stack = new int[MOST_STACK];
        private int size;
        private int height;

        /** False: the TAPE has a FAULT, and its reader is at it. */
        boolean read(Tape tape) {
            size = 0;
            tape.rewind();
            for (int clause = 0; clause <= Tape.MOST; clause++) {
                if (!readClause(tape)) {
                    return false;
                }
                if (tape.ahead() == Tape.END) {
                    return true;
                }
                if (!tape.takes(';')) {
                    return false;
                }
            }
            return false;
        }

        private boolean readClause(Tape tape) {
            if (!tape.takes('y') || !tape.takes(':')) {
                return false;
            }
            boolean begun = tape.ahead() != '!' && tape.ahead() != '(';
            if (begun) {
                if (!readSum(tape, 0)) {
                    return false;
                }
                // Only the sign behind it tells whether this SUM was the WORTH or begins a CONDITION.
                if (!isComparison(tape.ahead())) {
                    emit(DONE);
                    return true;
                }
            }
            return readCondition(tape, 0, begun) && tape.takes('?') && readGuarded(tape);
        }

        private boolean readGuarded(Tape tape) {
            int jump = size;
            emit(SKIP);
            if (!readSum(tape, 0)) {
                return false;
            }
            emit(DONE);
            if (jump < codes.length) {
                codes[jump] = SKIP - size;
            }
            return true;
        }

        private boolean readCondition(Tape tape, int depth, boolean begun) {
            if (!readTruth(tape, depth, begun)) {
                return false;
            }
            for (int more = 0; more <= Tape.MOST && tape.takes('|'); more++) {
                if (!readTruth(tape, depth, false)) {
                    return false;
                }
                emit(-'|');
            }
            return true;
        }

        private boolean readTruth(Tape tape, int depth, boolean begun) {
            if (!readUnit(tape, depth, begun)) {
                return false;
            }
            for (int more = 0; more <= Tape.MOST && tape.takes('&'); more++) {
                if (!readUnit(tape, depth, false)) {
                    return false;
                }
                emit(-'&');
            }
            return true;
        }

        /** With begun its first SUM has been read already. */
        private boolean readUnit(Tape tape, int depth, boolean begun) {
            int sign = tape.ahead();
            if (!begun && (sign == '!' || sign == '(')) {
                if (depth >= DEEPEST) {
                    return false;
                }
                tape.pass();
                if (sign == '(') {
                    return readCondition(tape, depth + 1, false) && tape.takes(')');
                }
                boolean read = readUnit(tape, depth + 1, false);
                emit(-'!');
                return read;
            }
            if (!begun && !readSum(tape, depth)) {
                return false;
            }
            int comparison = tape.ahead();
            if (!isComparison(comparison)) {
                return false;
            }
            tape.pass();
            boolean read = readSum(tape, depth);
            emit(-comparison);
            return read;
        }

        private boolean readSum(Tape tape, int depth) {
            boolean read = readTerm(tape, depth);
            for (int more = 0; more <= Tape.MOST && read; more++) {
                int sign = tape.ahead();
                if (sign != '+' && sign != '-') {
                    return true;
                }
                tape.pass();
                read = readTerm(tape, depth);
                emit(-sign);
            }
            return read;
        }

        private boolean readTerm(Tape tape, int depth) {
            boolean read = readAtom(tape, depth);
            for (int more = 0; more <= Tape.MOST && read; more++) {
                int sign = tape.ahead();
                if (sign != '*' && sign != '/') {
                    return true;
                }
                tape.pass();
                read = readAtom(tape, depth);
                emit(-sign);
            }
            return read;
        }

        private boolean readAtom(Tape tape, int depth) {
            int sign = tape.ahead();
            if (sign == '[') {
                if (depth >= DEEPEST) {
                    return false;
                }
                tape.pass();
                return readSum(tape, depth + 1) && tape.takes(']');
            }
            int letter = letterOf(sign);
            if (letter != NONE) {
                tape.pass();
                emit(-1 - letter);
                return true;
            }
            int value = tape.number(MOST_DIGITS);
            if (value == NONE) {
                return false;
            }
            emit(value);
            return true;
        }

        private static int letterOf(int sign) {
            for (int letter = 0; letter < LETTERS_MANY; letter++) {
                if (LETTERS.charAt(letter) == sign) {
                    return letter;
                }
            }
            return NONE;
        }

        private static boolean isComparison(int sign) {
            return sign == '=' || sign == '<' || sign == '>';
        }

        /** Each code stands for a byte of the TAPE at least (DONE for its y), so all have room. */
        private void emit(int code) {
            if (size < codes.length) {
                codes[size] = code;
                size++;
            }
        }

        int worth(int[] letters) {
            height = 0;
            int at = 0;
            for (int turn = 0; turn < size && at < size; turn++) {
                int code = codes[at];
                at++;
                if (code >= 0) {
                    push(code);
                } else if (code >= -LETTERS_MANY) {
                    push(letters[-1 - code]);
                } else if (code == DONE) {
                    return pop();
                } else if (code <= SKIP) {
                    at = pop() == 0 ? SKIP - code : at;
                } else if (code == -'!') {
                    push(1 - pop());
                } else {
                    int right = pop();
                    push(joined(-code, pop(), right));
                }
            }
            return 0;
        }

        private void push(int value) {
            if (height < stack.length) {
                stack[height] = value;
                height++;
            }
        }

        private int pop() {
            if (height == 0) {
                return 0;
            }
            height--;
            return stack[height];
        }

        private static int joined(int sign, int left, int right) {
            switch (sign) {
                case '=':
                    return left == right ? 1 : 0;
                case '<':
                    return left < right ? 1 : 0;
                case '>':
                    return left > right ? 1 : 0;
                case '&':
                    return left & right;
                case '|':
                    return left | right;
                case '/':
                    return right == 0 ? 0 : left / right;
                case '*':
                    return (int) Math.max(-MOST_WORTH, Math.min(MOST_WORTH, (long) left * right));
                default:
                    return Math.max(-MOST_WORTH, Math.min(MOST_WORTH, sign == '+' ? left + right : left - right));
            }
        }
    }

    /** LINES as rows of three numbers: what, the first digit, the second (NONE). */
    private static final class Lines {
        static final int WIDTH = 3;
        static final int MOVE = 0;
        static final int SAY = 1;
        static final int WAKE = 2;
        static final int LIE = 3;
        static final int SWAP = 4;
        static final int BORDER = 5;

        private static final int MOST_STEPS = 16;
        private static final int MOST_SAID = 2;
        private static final int KINDS = 6;
        private static final String LETTERS = "mywlxb";

        private final int[] parts = new int[MOST_STEPS * WIDTH];
        private int size;

        int size() {
            return size;
        }

        int part(int i, int what) {
            return parts[i * WIDTH + what];
        }

        /** False: the TAPE has a FAULT, and its reader is at it. */
        boolean read(Tape tape) {
            size = 0;
            tape.rewind();
            while (size < MOST_STEPS) {
                if (!readStep(tape, size * WIDTH)) {
                    return false;
                }
                size++;
                if (tape.ahead() == Tape.END) {
                    return true;
                }
                if (size == MOST_STEPS || !tape.takes(';')) {
                    return false;
                }
            }
            return false;
        }

        private boolean readStep(Tape tape, int from) {
            int kind = kindOf(tape.ahead());
            if (kind == NONE) {
                return false;
            }
            tape.pass();
            parts[from] = kind;
            parts[from + 1] = tape.digit();
            parts[from + 2] = NONE;
            if (parts[from + 1] == NONE) {
                return false;
            }
            if (kind != MOVE && kind != SAY && kind != SWAP) {
                return true;
            }
            int second = tape.digit();
            if (kind == SAY && second > MOST_SAID) {
                tape.stayAtLastDigit();
                return false;
            }
            parts[from + 2] = second;
            return second != NONE;
        }

        private static int kindOf(int sign) {
            for (int kind = 0; kind < KINDS; kind++) {
                if (LETTERS.charAt(kind) == sign) {
                    return kind;
                }
            }
            return NONE;
        }
    }

    /** LAWS and LINES that were told. A draft is read first, so that a FAULT changes nothing. */
    private static final class Shelf {
        private static final int MOST = 4;

        private final Law[] laws = new Law[MOST];
        private final Lines[] scripts = new Lines[MOST];
        private Law lawDraft = new Law();
        private Lines linesDraft = new Lines();
        private int lawCount;
        private int linesCount;

        int lawCount() {
            return lawCount;
        }

        int linesCount() {
            return linesCount;
        }

        Law lawAt(int i) {
            return i >= 0 && i < lawCount ? laws[i] : null;
        }

        Lines linesAt(int i) {
            return i >= 0 && i < linesCount ? scripts[i] : null;
        }

        Law lawDraft() {
            return lawDraft;
        }

        Lines linesDraft() {
            return linesDraft;
        }

        int keepLaw() {
            if (lawCount == MOST) {
                return NONE;
            }
            laws[lawCount] = lawDraft;
            lawDraft = new Law();
            lawCount++;
            return lawCount - 1;
        }

        int keepLines() {
            if (linesCount == MOST) {
                return NONE;
            }
            scripts[linesCount] = linesDraft;
            linesDraft = new Lines();
            linesCount++;
            return linesCount - 1;
        }
    }

    /** All that ACTS change, in one row, so that it is kept and brought back at one stroke. */
    private static final class Scene {
        private static final int BERTH = 0;
        private static final int DRAWER = 9;
        private static final int SAID = 18;
        private static final int ASLEEP = 27;
        private static final int WOKEN = 36;
        private static final int LOST = 45;
        private static final int COFFEES = 54;
        private static final int BORDERS = 55;
        static final int SIZE = 56;

        private final int[] cells = new int[SIZE];

        void begin(Car car) {
            Arrays.fill(cells, 0);
            int place = 0;
            for (int who = 0; who < car.sleepers(); who++) {
                cells[BERTH + who] = who;
                cells[ASLEEP + who] = 1;
                if (car.hasPaper(who)) {
                    cells[DRAWER + place] = who;
                    place++;
                }
            }
            cells[COFFEES] = car.ruleOf(Car.COFFEES);
        }

        void copyFrom(Scene other) {
            System.arraycopy(other.cells, 0, cells, 0, SIZE);
        }

        void copyTo(int[] rows, int row) {
            System.arraycopy(cells, 0, rows, row * SIZE, SIZE);
        }

        void copyBack(int[] rows, int row) {
            System.arraycopy(rows, row * SIZE, cells, 0, SIZE);
        }

        int berthOf(int who) {
            return cells[BERTH + who];
        }

        boolean areBeside(int one, int other) {
            return Math.abs(cells[BERTH + one] - cells[BERTH + other]) == 1;
        }

        int inDrawer(int place) {
            return cells[DRAWER + place];
        }

        int placeOf(int who, int papers) {
            for (int place = 0; place < papers; place++) {
                if (cells[DRAWER + place] == who) {
                    return place;
                }
            }
            return NONE;
        }

        int saidFor(int who) {
            return cells[SAID + who];
        }

        boolean isAsleep(int who) {
            return cells[ASLEEP + who] == 1;
        }

        int timesWoken(int who) {
            return cells[WOKEN + who];
        }

        int lostBy(int who) {
            return cells[LOST + who];
        }

        int coffees() {
            return cells[COFFEES];
        }

        int borders() {
            return cells[BORDERS];
        }

        int asleepInAll() {
            return sumFrom(ASLEEP);
        }

        int lostInAll() {
            return sumFrom(LOST);
        }

        private int sumFrom(int first) {
            int sum = 0;
            for (int who = 0; who < Car.MOST_SLEEPERS; who++) {
                sum += cells[first + who];
            }
            return sum;
        }

        void shiftPaper(int from, int to) {
            int who = cells[DRAWER + from];
            for (int place = from; place < to; place++) {
                cells[DRAWER + place] = cells[DRAWER + place + 1];
            }
            for (int place = from; place > to; place--) {
                cells[DRAWER + place] = cells[DRAWER + place - 1];
            }
            cells[DRAWER + to] = who;
        }

        void putSaid(int who, int what) {
            cells[SAID + who] = what;
        }

        void rouse(int who, int loss) {
            cells[ASLEEP + who] = 0;
            cells[WOKEN + who]++;
            cells[LOST + who] += loss;
        }

        void layDown(int who) {
            cells[ASLEEP + who] = 1;
        }

        void exchange(int one, int other) {
            int berth = cells[BERTH + one];
            cells[BERTH + one] = cells[BERTH + other];
            cells[BERTH + other] = berth;
        }

        void leaveCoffees(int left) {
            cells[COFFEES] = left;
        }

        void addBorder() {
            cells[BORDERS]++;
        }
    }

    /** What befalls the sleepers: SLEEP lost, ACTS, BORDERS, over a Scene that is true or a trial. */
    private static final class House {
        private static final int BY_HAND = 9;
        private static final int MOST_LOSS = 99;
        private static final int EXCUSE = 1;
        private static final int COFFEE = 2;

        private final Car car;
        private final int[] letters = new int[Law.LETTERS_MANY];
        private Law law;
        private int sleepLost;
        private int lastFetched;

        House(Car car) {
            this.car = car;
        }

        void hold(Law held) {
            law = held;
        }

        /** Of the BORDER that was passed last. */
        int sleepLost() {
            return sleepLost;
        }

        /** Of the BORDER that was passed last. */
        int lastFetched() {
            return lastFetched;
        }

        int lossByHand(Scene now, int who) {
            return lossOf(now, who, 0, BY_HAND);
        }

        int lossOfAllByHand(Scene now) {
            int loss = 0;
            for (int place = 0; place < car.papers(); place++) {
                loss += lossByHand(now, now.inDrawer(place));
            }
            return loss;
        }

        int lossOf(Scene now, int who, int tens, int officer) {
            int nerves = car.ofSleeper(who, Car.NERVES);
            int loss = nerves + 5 + 5 * now.timesWoken(who);
            if (law != null) {
                letters[0] = nerves;
                letters[1] = now.timesWoken(who);
                letters[2] = tens;
                letters[3] = car.ofSleeper(who, Car.CHILD);
                letters[4] = officer;
                letters[5] = snoresBeside(now, who);
                loss = law.worth(letters);
            }
            return Math.max(0, Math.min(MOST_LOSS, loss));
        }

        private int snoresBeside(Scene now, int who) {
            int snores = 0;
            for (int other = 0; other < car.sleepers(); other++) {
                if (now.areBeside(who, other)) {
                    snores += car.ofSleeper(other, Car.SNORES);
                }
            }
            return snores;
        }

        /** A turn but for what an ASLEEP one takes longer. */
        int turnAwake(int who, int officer) {
            int face = car.looksAtFaces(officer) ? car.ofOfficer(officer, Car.FACE_TENS) : 0;
            return car.ofSleeper(who, Car.STAMP) + face;
        }

        boolean wakes(Scene now, int who, int officer) {
            return car.looksAtFaces(officer) && now.isAsleep(who);
        }

        int turnOf(Scene now, int who, int officer) {
            int longer = wakes(now, who, officer) ? car.ruleOf(Car.LONGER) : 0;
            return turnAwake(who, officer) + longer;
        }

        int waitOf(int who, int officer, int said, boolean coffeeLeft) {
            int wait = 6 * car.ofSleeper(who, Car.LACKS);
            if (said == EXCUSE) {
                return car.looksAtFaces(officer) ? 2 * wait : wait / 2;
            }
            if (said == COFFEE && coffeeLeft) {
                return Math.max(0, wait - 6 * car.ofOfficer(officer, Car.COFFEE_WORTH));
            }
            return wait;
        }

        boolean takesCoffee(Scene now, int who) {
            return now.saidFor(who) == COFFEE;
        }

        /** TENS of a BORDER; nothing in the Scene changes unless it is real. */
        int pass(Scene now, int officer, boolean real) {
            int tens = 0;
            int over = 0;
            int coffees = now.coffees();
            int latest = NONE;
            sleepLost = 0;
            lastFetched = NONE;
            for (int place = 0; place < car.papers(); place++) {
                int who = now.inDrawer(place);
                int turn = turnOf(now, who, officer);
                if (wakes(now, who, officer)) {
                    int loss = lossOf(now, who, tens, officer);
                    sleepLost += loss;
                    if (real) {
                        now.rouse(who, loss);
                    }
                }
                tens += turn;
                int fetched = tens + waitOf(who, officer, now.saidFor(who), coffees > 0);
                if (takesCoffee(now, who) && coffees > 0) {
                    coffees--;
                }
                if (car.isLacking(who) && fetched > latest) {
                    latest = fetched;
                    lastFetched = who;
                }
                over = Math.max(over, fetched);
            }
            if (real) {
                now.leaveCoffees(coffees);
            }
            return over;
        }

        /** An ACT's answer (0 for a SWAP); NONE: it can't be, and nothing changed. */
        int done(Scene now, int kind, int first, int second) {
            switch (kind) {
                case Lines.MOVE:
                    return movePaper(now, first, second);
                case Lines.SAY:
                    return sayAnother(now, first, second);
                case Lines.WAKE:
                    return wakeByHand(now, first);
                case Lines.LIE:
                    return lieDown(now, first);
                case Lines.SWAP:
                    return swapBerths(now, first, second);
                case Lines.BORDER:
                    return car.hasOfficer(first) ? pass(now, first, true) : NONE;
                default:
                    return NONE;
            }
        }

        private int movePaper(Scene now, int who, int place) {
            if (!car.hasPaper(who) || place < 0 || place >= car.papers()) {
                return NONE;
            }
            int from = now.placeOf(who, car.papers());
            if (from == NONE || from == place) {
                return NONE;
            }
            now.shiftPaper(from, place);
            return from;
        }

        private int sayAnother(Scene now, int who, int what) {
            if (!car.isLacking(who) || what < 0 || what > COFFEE || now.saidFor(who) == what) {
                return NONE;
            }
            int was = now.saidFor(who);
            now.putSaid(who, what);
            return was;
        }

        private int wakeByHand(Scene now, int who) {
            if (!car.hasSleeper(who) || !now.isAsleep(who)) {
                return NONE;
            }
            int loss = lossByHand(now, who);
            now.rouse(who, loss);
            return loss;
        }

        private int lieDown(Scene now, int who) {
            if (!car.hasSleeper(who) || now.isAsleep(who)) {
                return NONE;
            }
            now.layDown(who);
            return now.asleepInAll();
        }

        private int swapBerths(Scene now, int one, int other) {
            if (!car.hasSleeper(one) || !car.hasSleeper(other) || one == other) {
                return NONE;
            }
            now.exchange(one, other);
            return 0;
        }
    }

    /** ACTS that can be UNDONE, the LOG, the IMAGE. */
    private static final class Memory {
        static final int LOG_WIDTH = 4;
        private static final int MOST_ACTS = 40;
        private static final int MOST_LOG = 60;

        // A row more than ACTS: one is noted before it is known whether its ACT can be.
        private static final int ACT_ROWS = MOST_ACTS + 1;
        // What fell off the LOG comes again when ACTS are UNDONE, so these many stay behind it.
        private static final int LOG_ROWS = MOST_LOG + MOST_ACTS;

        private final int[] scenes = new int[ACT_ROWS * Scene.SIZE];
        private final int[] diary = new int[LOG_ROWS * LOG_WIDTH];
        private final int[] imageScene = new int[Scene.SIZE];
        private final int[] imageDiary = new int[LOG_ROWS * LOG_WIDTH];
        private int next;
        private int acts;
        private boolean hasImage;

        void clear() {
            acts = 0;
            hasImage = false;
        }

        int acts() {
            return acts;
        }

        void note(Scene scene) {
            scene.copyTo(scenes, next);
        }

        void keepAct() {
            next = (next + 1) % ACT_ROWS;
            acts = Math.min(MOST_ACTS, acts + 1);
        }

        boolean takeBack(Scene scene) {
            if (acts == 0) {
                return false;
            }
            next = (next + ACT_ROWS - 1) % ACT_ROWS;
            acts--;
            scene.copyBack(scenes, next);
            return true;
        }

        int logged(Scene scene) {
            return Math.min(MOST_LOG, scene.borders());
        }

        void write(Scene scene, int officer, int tens, int late, int sleep) {
            int from = scene.borders() % LOG_ROWS * LOG_WIDTH;
            diary[from] = officer;
            diary[from + 1] = tens;
            diary[from + 2] = late;
            diary[from + 3] = sleep;
            scene.addBorder();
        }

        int logEntry(Scene scene, int i, int what) {
            return diary[(scene.borders() - 1 - i) % LOG_ROWS * LOG_WIDTH + what];
        }

        void keepImage(Scene scene) {
            scene.copyTo(imageScene, 0);
            System.arraycopy(diary, 0, imageDiary, 0, diary.length);
            hasImage = true;
        }

        boolean restoreImage(Scene scene) {
            if (!hasImage) {
                return false;
            }
            scene.copyBack(imageScene, 0);
            System.arraycopy(imageDiary, 0, diary, 0, diary.length);
            acts = 0;
            return true;
        }
    }

    /** ORDER, BOUND and GIVE: best rows of up to seven, by sets of those that stand ahead. */
    private static final class Orders {
        static final int MOST = 7;
        private static final int SETS = 1 << MOST;
        private static final int FAR = 1000000000;

        private final Car car;
        private final House house;
        private final Scene scene;
        private final int[] papers = new int[Car.MOST_SLEEPERS];
        private final int[] turns = new int[MOST];
        private final int[] elapsed = new int[SETS];
        private final int[] least = new int[SETS * MOST];
        private int many;
        private int drinkers;
        private int digits;
        private int worth;

        Orders(Car car, House house, Scene scene) {
            this.car = car;
            this.house = house;
            this.scene = scene;
        }

        int digits() {
            return digits;
        }

        int worth() {
            return worth;
        }

        int leastPossible(int officer) {
            int stamps = 0;
            int own = 0;
            for (int place = 0; place < car.papers(); place++) {
                int who = scene.inDrawer(place);
                int turn = house.turnOf(scene, who, officer);
                stamps += turn;
                own = Math.max(own, turn + house.waitOf(who, officer, scene.saidFor(who), true));
            }
            return Math.max(stamps, own);
        }

        /** TENS that went by, and COFFEES that are left, hang on the set ahead alone, not on its order. */
        void findSoonest(int officer) {
            layOutPapers(officer);
            int full = (1 << many) - 1;
            least[full] = elapsed[full];
            for (int set = full - 1; set >= 0; set--) {
                least[set] = FAR;
                for (int one = 0; one < many; one++) {
                    if ((set >> one & 1) == 0) {
                        least[set] = Math.min(least[set], overWith(set, one, officer));
                    }
                }
            }
            worth = least[0];
            digits = 0;
            int set = 0;
            for (int place = 0; place < many; place++) {
                int one = 0;
                while (one < many - 1 && ((set >> one & 1) == 1 || overWith(set, one, officer) > worth)) {
                    one++;
                }
                digits = 10 * digits + papers[one];
                set |= 1 << one;
            }
        }

        private void layOutPapers(int officer) {
            many = 0;
            drinkers = 0;
            elapsed[0] = 0;
            for (int who = 0; who < car.sleepers() && many < MOST; who++) {
                if (car.hasPaper(who)) {
                    papers[many] = who;
                    turns[many] = house.turnOf(scene, who, officer);
                    drinkers |= house.takesCoffee(scene, who) ? 1 << many : 0;
                    for (int set = 0; set < 1 << many; set++) {
                        elapsed[set | 1 << many] = elapsed[set] + turns[many];
                    }
                    many++;
                }
            }
        }

        /** When all is over at the soonest, if this one comes right behind the set. */
        private int overWith(int set, int one, int officer) {
            int who = papers[one];
            boolean coffeeLeft = scene.coffees() > Integer.bitCount(set & drinkers);
            int wait = house.waitOf(who, officer, scene.saidFor(who), coffeeLeft);
            return Math.max(elapsed[set] + turns[one] + wait, least[set | 1 << one]);
        }

        /** What TROUBLE is still to come hangs on the set ahead and its last one alone. */
        void findBerths() {
            many = Math.min(MOST, car.sleepers());
            int full = (1 << many) - 1;
            for (int last = 0; last < many; last++) {
                least[full * MOST + last] = 0;
            }
            for (int set = full - 1; set > 0; set--) {
                for (int last = 0; last < many; last++) {
                    if ((set >> last & 1) == 1) {
                        least[set * MOST + last] = leastBehind(set, last);
                    }
                }
            }
            worth = leastBehind(0, NONE);
            digits = 0;
            int set = 0;
            int last = NONE;
            for (int berth = 0; berth < many; berth++) {
                int goal = leastBehind(set, last);
                int one = 0;
                while (one < many - 1 && ((set >> one & 1) == 1 || troubleWith(set, last, one) > goal)) {
                    one++;
                }
                digits = 10 * digits + one;
                set |= 1 << one;
                last = one;
            }
        }

        private int leastBehind(int set, int last) {
            int best = FAR;
            for (int one = 0; one < many; one++) {
                if ((set >> one & 1) == 0) {
                    best = Math.min(best, troubleWith(set, last, one));
                }
            }
            return best;
        }

        private int troubleWith(int set, int last, int one) {
            int behind = many - 1 - Integer.bitCount(set);
            int nerves = car.ofSleeper(one, Car.NERVES);
            int trouble = nerves * behind + least[(set | 1 << one) * MOST + one];
            if (last != NONE) {
                trouble += nerves * car.ofSleeper(last, Car.SNORES);
                trouble += car.ofSleeper(last, Car.NERVES) * car.ofSleeper(one, Car.SNORES);
            }
            return trouble;
        }
    }

    /** BEFORE and SAY: the best over all OFFICERS by their WEIGHTS. */
    private static final class Advice {
        private static final int SETS = 1 << Car.MOST_SLEEPERS;
        private static final int CHOICES = 3;
        private static final int LATE = -1;
        private static final int FAR = 1000000000;

        private final Car car;
        private final House house;
        private final Scene scene;

        // By sets of those who are WOKEN beforehand: SLEEP times WEIGHTS so far, or LATE.
        private final int[] sums = new int[SETS];
        // By places of the DRAWER, and how many were WOKEN ahead at this BORDER.
        private final int[] losses = new int[Car.MOST_SLEEPERS * Car.MOST_SLEEPERS];
        // By places of the DRAWER: a turn as of one awake, a WAIT, the SLEEPER's bit if it would be WOKEN.
        private final int[] turns = new int[Car.MOST_SLEEPERS];
        private final int[] waits = new int[Car.MOST_SLEEPERS];
        private final int[] rousable = new int[Car.MOST_SLEEPERS];

        // By those who LACK something: what is SAID, and the OFFICER; and levels of the search.
        private final int[] lacking = new int[Car.MOST_SLEEPERS];
        private final int[] fetched = new int[Car.MOST_SLEEPERS * CHOICES * Car.MOST_OFFICERS];
        private final int[] peaks = new int[(Car.MOST_SLEEPERS + 1) * Car.MOST_OFFICERS];
        private final int[] rest = new int[(Car.MOST_SLEEPERS + 1) * Car.MOST_OFFICERS];
        private int lackingMany;
        private int answer;
        private int worth;

        Advice(Car car, House house, Scene scene) {
            this.car = car;
            this.house = house;
            this.scene = scene;
        }

        int answer() {
            return answer;
        }

        int worth() {
            return worth;
        }

        /** False: some OFFICER is LATE with each set. */
        boolean findWhomToWake() {
            int asleep = asleepWithPapers();
            sumByHand(asleep);
            for (int officer = 0; officer < car.officers(); officer++) {
                if (car.ofOfficer(officer, Car.WEIGHT) > 0) {
                    layOutDrawer(officer);
                    addBorders(asleep, officer);
                }
            }
            answer = NONE;
            for (int set = 0; set <= asleep; set++) {
                boolean can = (set & ~asleep) == 0 && sums[set] != LATE;
                if (can && (answer == NONE || sums[set] < worth)) {
                    answer = set;
                    worth = sums[set];
                }
            }
            return answer != NONE;
        }

        private int asleepWithPapers() {
            int asleep = 0;
            for (int place = 0; place < car.papers(); place++) {
                int who = scene.inDrawer(place);
                asleep |= scene.isAsleep(who) ? 1 << who : 0;
            }
            return asleep;
        }

        private void sumByHand(int asleep) {
            int weights = car.allWeights();
            sums[0] = 0;
            for (int who = 0; who < car.sleepers(); who++) {
                int loss = (asleep >> who & 1) == 0 ? 0 : weights * house.lossByHand(scene, who);
                for (int set = 0; set < 1 << who; set++) {
                    sums[set | 1 << who] = sums[set] + loss;
                }
            }
        }

        /** A LAW hears of the set only through t, so its WORTHS are few: they are worked out once. */
        private void layOutDrawer(int officer) {
            int coffees = scene.coffees();
            int begin = 0;
            int wakes = 0;
            for (int place = 0; place < car.papers(); place++) {
                int who = scene.inDrawer(place);
                turns[place] = house.turnAwake(who, officer);
                waits[place] = house.waitOf(who, officer, scene.saidFor(who), coffees > 0);
                if (house.takesCoffee(scene, who) && coffees > 0) {
                    coffees--;
                }
                rousable[place] = house.wakes(scene, who, officer) ? 1 << who : 0;
                if (rousable[place] != 0) {
                    for (int ahead = 0; ahead <= wakes; ahead++) {
                        int tens = begin + ahead * car.ruleOf(Car.LONGER);
                        losses[place * Car.MOST_SLEEPERS + ahead] = house.lossOf(scene, who, tens, officer);
                    }
                    wakes++;
                }
                begin += turns[place];
            }
        }

        private void addBorders(int asleep, int officer) {
            int weight = car.ofOfficer(officer, Car.WEIGHT);
            for (int set = 0; set <= asleep; set++) {
                if ((set & ~asleep) == 0 && sums[set] != LATE) {
                    int loss = lossWithout(set);
                    sums[set] = loss == LATE ? LATE : sums[set] + weight * loss;
                }
            }
        }

        /** SLEEP lost at the BORDER that is laid out, if the set is awake; or LATE. */
        private int lossWithout(int set) {
            int longer = car.ruleOf(Car.LONGER);
            int papers = car.papers();
            int tens = 0;
            int over = 0;
            int wakes = 0;
            int loss = 0;
            for (int place = 0; place < papers; place++) {
                if ((rousable[place] & ~set) != 0) {
                    loss += losses[place * Car.MOST_SLEEPERS + wakes];
                    wakes++;
                    tens += longer;
                }
                tens += turns[place];
                if (tens + waits[place] > over) {
                    over = tens + waits[place];
                }
            }
            return over > car.allowedTens() ? LATE : loss;
        }

        /** False: nobody with a PAPER LACKS anything. */
        boolean findWords() {
            lackingMany = 0;
            for (int who = 0; who < car.sleepers(); who++) {
                if (car.isLacking(who)) {
                    lacking[lackingMany] = who;
                    lackingMany++;
                }
            }
            if (lackingMany == 0) {
                return false;
            }
            for (int officer = 0; officer < car.officers(); officer++) {
                layOutWaits(officer);
            }
            worth = FAR;
            chooseLeast(0, scene.coffees());
            answer = 0;
            return chooseDigits(0, scene.coffees(), 0);
        }

        private void layOutWaits(int officer) {
            int tens = 0;
            for (int place = 0; place < car.papers(); place++) {
                int who = scene.inDrawer(place);
                tens += house.turnOf(scene, who, officer);
                for (int one = 0; one < lackingMany; one++) {
                    if (lacking[one] == who) {
                        for (int said = 0; said < CHOICES; said++) {
                            int wait = house.waitOf(who, officer, said, true);
                            fetched[cellOf(one, said, officer)] = tens + wait;
                        }
                    }
                }
            }
            peaks[officer] = tens;
            layOutRest(officer, tens);
        }

        /** What the OFFICER takes at the least for those from one on, whatever is SAID. */
        private void layOutRest(int officer, int stamps) {
            rest[lackingMany * Car.MOST_OFFICERS + officer] = stamps;
            for (int one = lackingMany - 1; one >= 0; one--) {
                int least = fetched[cellOf(one, 0, officer)];
                for (int said = 1; said < CHOICES; said++) {
                    least = Math.min(least, fetched[cellOf(one, said, officer)]);
                }
                int behind = rest[(one + 1) * Car.MOST_OFFICERS + officer];
                rest[one * Car.MOST_OFFICERS + officer] = Math.max(least, behind);
            }
        }

        private static int cellOf(int one, int said, int officer) {
            return (one * CHOICES + said) * Car.MOST_OFFICERS + officer;
        }

        /** The least TENS: each level tries what looks best first, so that most of the rest falls away. */
        private void chooseLeast(int one, int coffees) {
            if (one >= lackingMany) {
                worth = Math.min(worth, worthAtLeast(one));
                return;
            }
            int tried = 0;
            for (int turn = 0; turn < CHOICES; turn++) {
                int best = NONE;
                int bestWorth = worth;
                for (int said = 0; said < CHOICES; said++) {
                    if ((tried >> said & 1) == 0 && coffeesBehind(said, coffees) >= 0) {
                        sayOne(one, said);
                        int atLeast = worthAtLeast(one + 1);
                        if (atLeast < bestWorth) {
                            best = said;
                            bestWorth = atLeast;
                        }
                    }
                }
                if (best == NONE) {
                    return;
                }
                tried |= 1 << best;
                sayOne(one, best);
                chooseLeast(one + 1, coffeesBehind(best, coffees));
            }
        }

        /** The least digits by which TENS are the least: true if these were found. */
        private boolean chooseDigits(int one, int coffees, int digits) {
            if (worthAtLeast(one) > worth) {
                return false;
            }
            if (one >= lackingMany) {
                answer = digits;
                return true;
            }
            for (int said = 0; said < CHOICES; said++) {
                int left = coffeesBehind(said, coffees);
                if (left >= 0) {
                    sayOne(one, said);
                    if (chooseDigits(one + 1, left, 10 * digits + said)) {
                        return true;
                    }
                }
            }
            return false;
        }

        /** A COFFEE that is not left does as much as nothing, whose digit is lower, so it is not tried. */
        private static int coffeesBehind(int said, int coffees) {
            return said == House.COFFEE ? coffees - 1 : coffees;
        }

        private void sayOne(int one, int said) {
            int level = one * Car.MOST_OFFICERS;
            int from = (one * CHOICES + said) * Car.MOST_OFFICERS;
            for (int officer = 0; officer < car.officers(); officer++) {
                int latest = Math.max(peaks[level + officer], fetched[from + officer]);
                peaks[level + Car.MOST_OFFICERS + officer] = latest;
            }
        }

        /** TENS times WEIGHTS that can't be avoided any more, with what is SAID for those ahead of one. */
        private int worthAtLeast(int one) {
            int level = one * Car.MOST_OFFICERS;
            int sum = 0;
            for (int officer = 0; officer < car.officers(); officer++) {
                int latest = Math.max(peaks[level + officer], rest[level + officer]);
                sum += car.ofOfficer(officer, Car.WEIGHT) * latest;
            }
            return sum;
        }
    }

    /** What can be told from little: HEARD, LOOKS, HEADS, a morning's FACES. */
    private static final class Guesses {
        private static final int MOST_HEARD = 8;
        private static final int MOST_LOOKS = 10;
        private static final int PARTS = 1000000;
        private static final int FIRST_WAY = 101;

        private final Car car;
        private final House house;
        private final Scene scene;
        private final boolean[] heardFaces = new boolean[MOST_HEARD];
        private final int[] heardTens = new int[MOST_HEARD];
        private final int[] lookBerths = new int[MOST_LOOKS];
        private final boolean[] lookSame = new boolean[MOST_LOOKS];
        private int heard;
        private int looks;

        Guesses(Car car, House house, Scene scene) {
            this.car = car;
            this.house = house;
            this.scene = scene;
        }

        void clear() {
            heard = 0;
            looks = 0;
        }

        int heard() {
            return heard;
        }

        int looks() {
            return looks;
        }

        int addHeard(boolean faces, int tens) {
            if (heard == MOST_HEARD) {
                return NONE;
            }
            heardFaces[heard] = faces;
            heardTens[heard] = tens;
            heard++;
            return heard;
        }

        int addLook(int berth, boolean same) {
            if (looks == MOST_LOOKS) {
                return NONE;
            }
            lookBerths[looks] = berth;
            lookSame[looks] = same;
            looks++;
            return looks;
        }

        int chanceOf(int officer) {
            if (!couldBe(officer)) {
                return 0;
            }
            int all = 0;
            for (int other = 0; other < car.officers(); other++) {
                if (couldBe(other)) {
                    all += car.ofOfficer(other, Car.WEIGHT);
                }
            }
            return all == 0 ? 0 : PARTS * car.ofOfficer(officer, Car.WEIGHT) / all;
        }

        private boolean couldBe(int officer) {
            int tens = house.pass(scene, officer, false);
            for (int i = 0; i < heard; i++) {
                if (heardFaces[i] != car.looksAtFaces(officer) || tens < heardTens[i]) {
                    return false;
                }
            }
            return true;
        }

        int fitting(int i) {
            int found = 0;
            if (fits(NONE, NONE)) {
                if (i == 0) {
                    return 0;
                }
                found++;
            }
            for (int one = 0; one < car.sleepers(); one++) {
                for (int other = one + 1; other < car.sleepers(); other++) {
                    if (fits(one, other)) {
                        if (found == i) {
                            return FIRST_WAY + 10 * one + other;
                        }
                        found++;
                    }
                }
            }
            return i == NONE ? found : NONE;
        }

        /** Whether these two BERTHS (NONE: no two) may have been SWAPPED, by all LOOKS. */
        private boolean fits(int one, int other) {
            if (one != NONE && car.ofSleeper(one, Car.FACE) == car.ofSleeper(other, Car.FACE)) {
                return false;
            }
            for (int i = 0; i < looks; i++) {
                boolean same = lookBerths[i] != one && lookBerths[i] != other;
                if (same != lookSame[i]) {
                    return false;
                }
            }
            return true;
        }

        int bestBerth() {
            if (fitting(NONE) == 0) {
                return NONE;
            }
            int best = NONE;
            int leastApart = 0;
            for (int berth = 0; berth < car.sleepers(); berth++) {
                int apart = apartAt(berth);
                if (best == NONE || apart < leastApart) {
                    best = berth;
                    leastApart = apart;
                }
            }
            return best;
        }

        private int apartAt(int berth) {
            int apart = fits(NONE, NONE) ? 1 : 0;
            for (int one = 0; one < car.sleepers(); one++) {
                for (int other = one + 1; other < car.sleepers(); other++) {
                    if (fits(one, other)) {
                        apart += berth == one || berth == other ? -1 : 1;
                    }
                }
            }
            return Math.abs(apart);
        }

        int headSets(int heads, int i) {
            int children = 0;
            for (int who = 0; who < car.sleepers(); who++) {
                if (!car.hasPaper(who)) {
                    children |= 1 << who;
                }
            }
            int found = 0;
            for (int set = 0; set < 1 << car.sleepers(); set++) {
                if ((set & ~children) == 0 && car.papers() + Integer.bitCount(set) == heads) {
                    if (found == i) {
                        return set;
                    }
                    found++;
                }
            }
            return i == NONE ? found : NONE;
        }

        int officersWaking(int sleepers) {
            int officers = 0;
            for (int officer = 0; officer < car.officers(); officer++) {
                int woken = 0;
                for (int place = 0; place < car.papers(); place++) {
                    int who = scene.inDrawer(place);
                    if (house.wakes(scene, who, officer)) {
                        woken |= 1 << who;
                    }
                }
                if (woken == sleepers) {
                    officers |= 1 << officer;
                }
            }
            return officers;
        }
    }
}
