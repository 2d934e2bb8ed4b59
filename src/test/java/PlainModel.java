import java.util.ArrayList;
import java.util.List;
import java.util.NoSuchElementException;
import java.util.regex.Matcher;
import java.util.regex.Pattern;

/**
 * The document once more, as plainly as it can be said: whole copies of the state, all orders, all sets,
 * all words tried one by one, laws worked out from their text. ModelTest holds the program against it.
 */
final class PlainModel {
    static final int NONE = -1;
    static final int HIDDEN = -1000000;

    static final class State {
        int[] berth;
        List<Integer> drawer = new ArrayList<>();
        int[] said;
        boolean[] asleep;
        int[] woken;
        int[] lost;
        int coffees;
        List<int[]> log = new ArrayList<>();

        State copy() {
            State s = new State();
            s.berth = berth.clone();
            s.drawer = new ArrayList<>(drawer);
            s.said = said.clone();
            s.asleep = asleep.clone();
            s.woken = woken.clone();
            s.lost = lost.clone();
            s.coffees = coffees;
            s.log = new ArrayList<>(log);
            return s;
        }

        int sleepers() {
            int n = 0;
            for (boolean b : asleep) {
                n += b ? 1 : 0;
            }
            return n;
        }

        int lostAll() {
            int n = 0;
            for (int l : lost) {
                n += l;
            }
            return n;
        }
    }

    private String tape = "";
    private int[] rules;
    private List<int[]> people = new ArrayList<>();
    private List<int[]> officers = new ArrayList<>();
    private final List<String> laws = new ArrayList<>();
    private final List<List<int[]>> lines = new ArrayList<>();
    private int held = NONE;
    private int drowsy = 50;
    private State now;
    private State image;
    private final List<State> past = new ArrayList<>();
    private final List<int[]> heard = new ArrayList<>();
    private final List<int[]> looks = new ArrayList<>();

    // ---------------------------------------------------------------- texts

    int feed(int a, int b, int c, int d, int e) {
        StringBuilder more = new StringBuilder();
        for (int v : new int[] {a, b, c, d, e}) {
            for (int shift = 24; shift >= 0; shift -= 8) {
                char sign = (char) (v >>> shift & 255);
                if (sign != 0) {
                    more.append(sign);
                }
            }
        }
        if (tape.length() + more.length() > 240) {
            return NONE;
        }
        tape += more;
        return tape.length();
    }

    boolean end(int n) {
        if (n < 0 || n > tape.length()) {
            return false;
        }
        tape = tape.substring(0, n);
        return true;
    }

    int fault(int sort) {
        switch (sort) {
            case 0:
                return new CarText(tape).fault;
            case 1:
                return new LawText(tape).fault();
            case 2:
                return linesFault(tape);
            default:
                return -2;
        }
    }

    private static final Pattern LINES = Pattern.compile(
            " *(?:[mx] *\\d *\\d|y *\\d *[0-2]|[wlb] *\\d)(?: *; *(?:[mx] *\\d *\\d|y *\\d *[0-2]|[wlb] *\\d)){0,15} *");

    private static int linesFault(String text) {
        for (int i = 1; i <= text.length(); i++) {
            Matcher m = LINES.matcher(text.substring(0, i));
            if (!m.matches() && !m.hitEnd()) {
                return i - 1;
            }
        }
        return LINES.matcher(text).matches() ? NONE : text.length();
    }

    /** A machine of states over the bytes, none of it recursive. */
    static final class CarText {
        int[] rules = {11, 20, 2, 3};
        final List<int[]> people = new ArrayList<>();
        final List<int[]> officers = new ArrayList<>();
        int fault = NONE;
        private boolean rulesSeen;
        private String letters = "";
        private String seen = "";
        private int[] row;
        private int[] low;
        private int[] high;

        CarText(String text) {
            int state = 0; // 0 a clause must come, 1 items or ;, 2 a number must come
            char letter = 0;
            int i = 0;
            while (i < text.length()) {
                char c = text.charAt(i);
                if (c == ' ') {
                    i++;
                } else if (state == 0) {
                    if (!begin(c)) {
                        fault = i;
                        return;
                    }
                    state = 1;
                    i++;
                } else if (state == 1 && c == ';') {
                    state = 0;
                    i++;
                } else if (state == 1) {
                    if (letters.indexOf(c) < 0 || seen.indexOf(c) >= 0) {
                        fault = i;
                        return;
                    }
                    seen += c;
                    letter = c;
                    state = 2;
                    i++;
                } else {
                    int j = i;
                    while (j < text.length() && Character.isDigit(text.charAt(j)) && text.charAt(j) < 128) {
                        j++;
                    }
                    if (j == i || j - i > 2) {
                        fault = j == i ? i : i + 2;
                        return;
                    }
                    int v = Integer.parseInt(text.substring(i, j));
                    int k = letters.indexOf(letter);
                    if (v < low[k] || v > high[k]) {
                        fault = j - 1;
                        return;
                    }
                    row[k] = v;
                    state = 1;
                    i = j;
                }
            }
            boolean grown = false;
            for (int[] p : people) {
                grown |= p[5] == 0;
            }
            if (state != 1 || !grown || officers.isEmpty()) {
                fault = text.length();
            }
        }

        private boolean begin(char c) {
            seen = "";
            if (c == 's' && !rulesSeen) {
                rulesSeen = true;
                letters = "agce";
                row = rules;
                low = new int[] {1, 0, 0, 0};
                high = new int[] {60, 99, 9, 9};
                return true;
            }
            if (c == 'p' && people.size() < 9) {
                letters = "tlnsfc";
                row = new int[] {2, 0, 3, 0, 0, 0};
                low = new int[] {1, 0, 0, 0, 0, 0};
                high = new int[] {9, 9, 9, 9, 9, 1};
                people.add(row);
                return true;
            }
            if (c == 'o' && officers.size() < 4) {
                letters = "wftk";
                row = new int[] {1, 0, 1, 1};
                low = new int[4];
                high = new int[] {9, 1, 9, 9};
                officers.add(row);
                return true;
            }
            return false;
        }
    }

    /**
     * Tries each of the grammar's ways in turn and goes back where one fails; the farthest byte at which any
     * way failed is the FAULT.
     */
    static final class LawText {
        private final String s;
        private int far;

        LawText(String s) {
            this.s = s;
        }

        int fault() {
            int at = clause(0);
            while (at >= 0 && skip(at) < s.length()) {
                at = sign(at, ';');
                at = at < 0 ? at : clause(at);
            }
            return at >= 0 ? NONE : far;
        }

        private int skip(int at) {
            while (at < s.length() && s.charAt(at) == ' ') {
                at++;
            }
            return at;
        }

        private int fail(int at) {
            far = Math.max(far, at);
            return -1;
        }

        private int sign(int at, char c) {
            at = skip(at);
            return at < s.length() && s.charAt(at) == c ? at + 1 : fail(at);
        }

        private int oneOf(int at, String signs) {
            at = skip(at);
            return at < s.length() && signs.indexOf(s.charAt(at)) >= 0 ? at + 1 : fail(at);
        }

        private int clause(int at) {
            at = sign(at, 'y');
            at = at < 0 ? at : sign(at, ':');
            if (at < 0) {
                return at;
            }
            int guarded = joined(at, 0, 0);
            guarded = guarded < 0 ? guarded : sign(guarded, '?');
            guarded = guarded < 0 ? guarded : sum(guarded, 0);
            if (guarded >= 0) {
                return guarded;
            }
            int next = skip(at);
            if (next < s.length() && (s.charAt(next) == '!' || s.charAt(next) == '(')) {
                return -1;
            }
            return sum(at, 0);
        }

        /** level 0: with | between, level 1: with & between, level 2: a UNIT. */
        private int joined(int at, int level, int depth) {
            if (level == 2) {
                return unit(at, depth);
            }
            at = joined(at, level + 1, depth);
            while (at >= 0) {
                int more = sign(at, level == 0 ? '|' : '&');
                if (more < 0) {
                    return at;
                }
                at = joined(more, level + 1, depth);
            }
            return at;
        }

        private int unit(int at, int depth) {
            int next = skip(at);
            if (next < s.length() && (s.charAt(next) == '!' || s.charAt(next) == '(')) {
                if (depth == 6) {
                    return fail(next);
                }
                if (s.charAt(next) == '!') {
                    return unit(next + 1, depth + 1);
                }
                int inner = joined(next + 1, 0, depth + 1);
                return inner < 0 ? inner : sign(inner, ')');
            }
            at = sum(at, depth);
            at = at < 0 ? at : oneOf(at, "=<>");
            return at < 0 ? at : sum(at, depth);
        }

        private int sum(int at, int depth) {
            at = atom(at, depth);
            while (at >= 0) {
                int more = oneOf(at, "+-*/");
                if (more < 0) {
                    return at;
                }
                at = atom(more, depth);
            }
            return at;
        }

        private int atom(int at, int depth) {
            at = skip(at);
            if (at < s.length() && s.charAt(at) == '[') {
                if (depth == 6) {
                    return fail(at);
                }
                int inner = sum(at + 1, depth + 1);
                return inner < 0 ? inner : sign(inner, ']');
            }
            if (at < s.length() && "nwtcos".indexOf(s.charAt(at)) >= 0) {
                return at + 1;
            }
            int digits = 0;
            while (at + digits < s.length() && s.charAt(at + digits) >= '0' && s.charAt(at + digits) <= '9') {
                digits++;
            }
            if (digits == 0) {
                return fail(at);
            }
            return digits > 4 ? fail(at + 4) : at + digits;
        }
    }

    /** Works a LAW out of its text, which has no FAULT, by splitting it at its signs. */
    static int worth(String law, int[] letters) {
        for (String clause : law.replace(" ", "").split(";")) {
            String body = clause.substring(2);
            int q = body.indexOf('?');
            if (q < 0) {
                return sumOf(body, letters);
            }
            if (holds(body.substring(0, q), letters)) {
                return sumOf(body.substring(q + 1), letters);
            }
        }
        return 0;
    }

    private static int lastOf(String s, String signs) {
        int depth = 0;
        for (int i = s.length() - 1; i >= 0; i--) {
            char c = s.charAt(i);
            depth += c == ')' || c == ']' ? 1 : c == '(' || c == '[' ? -1 : 0;
            if (depth == 0 && signs.indexOf(c) >= 0) {
                return i;
            }
        }
        return -1;
    }

    private static boolean holds(String s, int[] letters) {
        int i = lastOf(s, "|");
        if (i >= 0) {
            return holds(s.substring(0, i), letters) | holds(s.substring(i + 1), letters);
        }
        i = lastOf(s, "&");
        if (i >= 0) {
            return holds(s.substring(0, i), letters) & holds(s.substring(i + 1), letters);
        }
        if (s.charAt(0) == '!') {
            return !holds(s.substring(1), letters);
        }
        if (s.charAt(0) == '(') {
            return holds(s.substring(1, s.length() - 1), letters);
        }
        i = lastOf(s, "=<>");
        int left = sumOf(s.substring(0, i), letters);
        int right = sumOf(s.substring(i + 1), letters);
        return s.charAt(i) == '=' ? left == right : s.charAt(i) == '<' ? left < right : left > right;
    }

    private static int sumOf(String s, int[] letters) {
        int i = lastOf(s, "+-");
        if (i < 0) {
            i = lastOf(s, "*/");
        }
        if (i >= 0) {
            long left = sumOf(s.substring(0, i), letters);
            long right = sumOf(s.substring(i + 1), letters);
            char c = s.charAt(i);
            long v = c == '+' ? left + right : c == '-' ? left - right
                    : c == '*' ? left * right : right == 0 ? 0 : left / right;
            return (int) Math.max(-1000000, Math.min(1000000, v));
        }
        if (s.charAt(0) == '[') {
            return sumOf(s.substring(1, s.length() - 1), letters);
        }
        int letter = "nwtcos".indexOf(s.charAt(0));
        return letter >= 0 ? letters[letter] : Integer.parseInt(s);
    }

    int text(int sort) {
        if (fault(sort) != NONE || sort == 1 && laws.size() == 4 || sort == 2 && lines.size() == 4) {
            return NONE;
        }
        String told = tape;
        tape = "";
        if (sort == 1) {
            laws.add(told);
            return laws.size() - 1;
        }
        if (sort == 2) {
            List<int[]> steps = new ArrayList<>();
            for (String step : told.replace(" ", "").split(";")) {
                steps.add(new int[] {"mywlxb".indexOf(step.charAt(0)), step.charAt(1) - '0',
                    step.length() > 2 ? step.charAt(2) - '0' : NONE});
            }
            lines.add(steps);
            return lines.size() - 1;
        }
        CarText car = new CarText(told);
        rules = car.rules;
        people = car.people;
        officers = car.officers;
        int n = people.size();
        now = new State();
        now.berth = new int[n];
        now.said = new int[n];
        now.asleep = new boolean[n];
        now.woken = new int[n];
        now.lost = new int[n];
        now.coffees = rules[2];
        for (int i = 0; i < n; i++) {
            now.berth[i] = i;
            now.asleep[i] = true;
            if (people.get(i)[5] == 0) {
                now.drawer.add(i);
            }
        }
        image = null;
        past.clear();
        heard.clear();
        looks.clear();
        return n;
    }

    // ---------------------------------------------------------------- what there is

    private boolean person(int i) {
        return i >= 0 && i < people.size();
    }

    private boolean post(int i) {
        return i >= 0 && i < officers.size();
    }

    private boolean paper(int i) {
        return person(i) && people.get(i)[5] == 0;
    }

    int rule(int what) {
        return now == null || what < 0 || what > 3 ? NONE : what == 2 ? now.coffees : rules[what];
    }

    int sleeper(int i, int what) {
        if (!person(i) || what < 0 || what > 10) {
            throw new NoSuchElementException();
        }
        if (what < 6) {
            return people.get(i)[what];
        }
        int[] rest = {now.berth[i], now.drawer.indexOf(i), now.said[i], now.asleep[i] ? 1 : 0, now.lost[i]};
        return rest[what - 6];
    }

    int officer(int i, int what) {
        return post(i) && what >= 0 && what < 4 ? officers.get(i)[what] : NONE;
    }

    boolean law(int i) {
        if (i < -1 || i >= laws.size()) {
            return false;
        }
        held = i;
        return true;
    }

    boolean drowsy(int v) {
        if (v < 0 || v > 99 || v == drowsy) {
            return false;
        }
        drowsy = v;
        return true;
    }

    // ---------------------------------------------------------------- acts

    private int loss(State s, int i, int t, int o) {
        int v;
        if (held == NONE) {
            v = 5 + people.get(i)[2] + 5 * s.woken[i];
        } else {
            int snores = 0;
            for (int j = 0; j < people.size(); j++) {
                if (s.berth[j] == s.berth[i] - 1 || s.berth[j] == s.berth[i] + 1) {
                    snores += people.get(j)[3];
                }
            }
            v = worth(laws.get(held), new int[] {people.get(i)[2], s.woken[i], t, people.get(i)[5], o, snores});
        }
        return v < 0 ? 0 : v > 99 ? 99 : v;
    }

    private void rouse(State s, int i, int loss) {
        s.asleep[i] = false;
        s.woken[i]++;
        s.lost[i] += loss;
    }

    /** Passes a BORDER in the state itself: TENS. Ends of fetching go to ends, by places. */
    private int pass(State s, int o, int[] ends) {
        int[] officer = officers.get(o);
        boolean looksAtFaces = officer[1] == 1;
        int t = 0;
        int over = 0;
        int before = s.lostAll();
        for (int place = 0; place < s.drawer.size(); place++) {
            int i = s.drawer.get(place);
            int begin = t;
            t += people.get(i)[0];
            if (looksAtFaces) {
                t += officer[2];
                if (s.asleep[i]) {
                    t += rules[3];
                    rouse(s, i, loss(s, i, begin, o));
                }
            }
            int wait = 6 * people.get(i)[1];
            if (s.said[i] == 1) {
                wait = looksAtFaces ? wait * 2 : wait / 2;
            } else if (s.said[i] == 2 && s.coffees > 0) {
                s.coffees--;
                wait = Math.max(0, wait - 6 * officer[3]);
            }
            if (ends != null) {
                ends[place] = t + wait;
            }
            over = Math.max(over, t + wait);
        }
        s.log.add(0, new int[] {o, over, over > 6 * rules[0] ? 1 : 0, s.lostAll() - before});
        if (s.log.size() > 60) {
            s.log.remove(60);
        }
        return over;
    }

    /** NONE, and the state as it was, if it can't be. */
    private int doStep(State s, int kind, int a, int b) {
        if (kind == 5) {
            return post(a) ? pass(s, a, null) : NONE;
        }
        if (!person(a)) {
            return NONE;
        }
        if (kind == 0) {
            int from = s.drawer.indexOf(a);
            if (from < 0 || b < 0 || b >= s.drawer.size() || b == from) {
                return NONE;
            }
            s.drawer.remove(from);
            s.drawer.add(b, a);
            return from;
        }
        if (kind == 1) {
            if (!paper(a) || people.get(a)[1] == 0 || b < 0 || b > 2 || s.said[a] == b) {
                return NONE;
            }
            int was = s.said[a];
            s.said[a] = b;
            return was;
        }
        if (kind == 2) {
            if (!s.asleep[a]) {
                return NONE;
            }
            int loss = loss(s, a, 0, 9);
            rouse(s, a, loss);
            return loss;
        }
        if (kind == 3) {
            if (s.asleep[a]) {
                return NONE;
            }
            s.asleep[a] = true;
            return s.sleepers();
        }
        if (!person(b) || a == b) {
            return NONE;
        }
        int berth = s.berth[a];
        s.berth[a] = s.berth[b];
        s.berth[b] = berth;
        return 0;
    }

    private void keep(State was) {
        past.add(was);
        if (past.size() > 40) {
            past.remove(0);
        }
    }

    int act(int kind, int a, int b) {
        if (now == null) {
            return NONE;
        }
        State was = now.copy();
        int answer = doStep(now, kind, a, b);
        if (answer != NONE) {
            keep(was);
        }
        return kind == 4 && answer != NONE ? past.size() : answer;
    }

    int nights(int n, long seed) {
        if (now == null || n < 1 || n > 20) {
            return NONE;
        }
        long[] x = {seed};
        for (int k = 0; k < n; k++) {
            State was = now.copy();
            List<Integer> urn = new ArrayList<>();
            for (int o = 0; o < officers.size(); o++) {
                for (int w = 0; w < officers.get(o)[0]; w++) {
                    urn.add(o);
                }
            }
            pass(now, urn.isEmpty() ? 0 : urn.get(draw(x, urn.size())), null);
            for (int i = 0; i < people.size(); i++) {
                if (!now.asleep[i] && draw(x, 100) < drowsy) {
                    now.asleep[i] = true;
                }
            }
            keep(was);
        }
        return now.log.size();
    }

    private static int draw(long[] x, int m) {
        x[0] = x[0] * 6364136223846793005L + 1442695040888963407L;
        return (int) ((x[0] >>> 33) % m);
    }

    int undo() {
        if (past.isEmpty()) {
            return NONE;
        }
        now = past.remove(past.size() - 1);
        return past.size();
    }

    int log(int i, int what) {
        return now == null || i < 0 || i >= now.log.size() || what < 0 || what > 3 ? NONE : now.log.get(i)[what];
    }

    int step(int l, int i, int what) {
        if (l < 0 || l >= lines.size() || i < 0 || i >= lines.get(l).size() || what < 0 || what > 2) {
            return HIDDEN;
        }
        return lines.get(l).get(i)[what];
    }

    int run(int l, int what) {
        if (l < 0 || l >= lines.size() || now == null || what < 0 || what > 1) {
            return HIDDEN;
        }
        State s = now.copy();
        int done = 0;
        for (int[] step : lines.get(l)) {
            if (doStep(s, step[0], step[1], step[2]) == NONE) {
                break;
            }
            done++;
        }
        return what == 1 ? s.lostAll() - now.lostAll() : done == lines.get(l).size() ? NONE : done;
    }

    int perform(int l) {
        if (l < 0 || l >= lines.size() || now == null) {
            return NONE;
        }
        int done = 0;
        for (int[] step : lines.get(l)) {
            if (act(step[0], step[1], step[2]) == NONE) {
                break;
            }
            done++;
        }
        return done;
    }

    // ---------------------------------------------------------------- plans

    int time(int o, int what) {
        if (!post(o) || what < 0 || what > 1) {
            return NONE;
        }
        State s = now.copy();
        int tens = pass(s, o, null);
        return what == 0 ? tens : s.lostAll() - now.lostAll();
    }

    private static void permute(List<Integer> left, List<Integer> row, List<List<Integer>> all) {
        if (left.isEmpty()) {
            all.add(new ArrayList<>(row));
        }
        for (int i = 0; i < left.size(); i++) {
            int one = left.remove(i);
            row.add(one);
            permute(left, row, all);
            row.remove(row.size() - 1);
            left.add(i, one);
        }
    }

    private static int digits(List<Integer> row) {
        int v = 0;
        for (int one : row) {
            v = 10 * v + one;
        }
        return v;
    }

    int order(int o, int what) {
        if (!post(o) || what < 0 || what > 1) {
            return NONE;
        }
        if (now.drawer.size() > 7) {
            return HIDDEN;
        }
        List<Integer> sorted = new ArrayList<>(now.drawer);
        sorted.sort(null);
        List<List<Integer>> all = new ArrayList<>();
        permute(sorted, new ArrayList<>(), all);
        int best = Integer.MAX_VALUE;
        int found = 0;
        for (List<Integer> row : all) {
            State s = now.copy();
            s.drawer = row;
            int tens = pass(s, o, null);
            if (tens < best || tens == best && digits(row) < found) {
                best = tens;
                found = digits(row);
            }
        }
        return what == 0 ? found : best;
    }

    int bound(int o) {
        if (!post(o)) {
            return NONE;
        }
        int all = 0;
        int own = 0;
        for (int i : now.drawer) {
            State alone = now.copy();
            alone.drawer.clear();
            alone.drawer.add(i);
            alone.coffees = 1;
            own = Math.max(own, pass(alone, o, null));
            all += people.get(i)[0];
            if (officers.get(o)[1] == 1) {
                all += officers.get(o)[2] + (now.asleep[i] ? rules[3] : 0);
            }
        }
        return Math.max(all, own);
    }

    int before(int what) {
        if (now == null || what < 0 || what > 1) {
            return NONE;
        }
        int best = Integer.MAX_VALUE;
        int found = NONE;
        for (int set = 0; set < 1 << people.size(); set++) {
            State s = now.copy();
            int byHand = 0;
            boolean can = true;
            for (int i = 0; i < people.size(); i++) {
                if ((set >> i & 1) == 1) {
                    can &= paper(i) && now.asleep[i];
                    byHand += loss(now, i, 0, 9);
                    s.asleep[i] = false;
                }
            }
            int sum = 0;
            for (int o = 0; can && o < officers.size(); o++) {
                int weight = officers.get(o)[0];
                State t = s.copy();
                int tens = pass(t, o, null);
                can &= weight == 0 || tens <= 6 * rules[0];
                sum += weight * (byHand + t.lostAll() - s.lostAll());
            }
            if (can && sum < best) {
                best = sum;
                found = set;
            }
        }
        return what == 0 || found == NONE ? found : best;
    }

    int words(int what) {
        List<Integer> who = new ArrayList<>();
        for (int i = 0; i < people.size(); i++) {
            if (paper(i) && people.get(i)[1] > 0) {
                who.add(i);
            }
        }
        if (now == null || what < 0 || what > 1 || who.isEmpty()) {
            return NONE;
        }
        int all = 1;
        for (int k = 0; k < who.size(); k++) {
            all *= 3;
        }
        int best = Integer.MAX_VALUE;
        int found = 0;
        for (int way = 0; way < all; way++) {
            State s = now.copy();
            s.log.clear();
            int rest = way;
            int digits = 0;
            for (int k = who.size() - 1, place = 1; k >= 0; k--, place *= 10) {
                s.said[who.get(k)] = rest % 3;
                digits += place * (rest % 3);
                rest /= 3;
            }
            int sum = 0;
            for (int o = 0; o < officers.size(); o++) {
                sum += officers.get(o)[0] * pass(s.copy(), o, null);
            }
            if (sum < best) {
                best = sum;
                found = digits;
            }
        }
        return what == 0 ? found : best;
    }

    // ---------------------------------------------------------------- guesses

    int tonight(int o) {
        if (!post(o)) {
            return NONE;
        }
        long all = 0;
        boolean mine = false;
        for (int k = 0; k < officers.size(); k++) {
            boolean could = true;
            for (int[] h : heard) {
                could &= h[0] == officers.get(k)[1] && time(k, 0) >= h[1];
            }
            all += could ? officers.get(k)[0] : 0;
            mine |= could && k == o;
        }
        return !mine || all == 0 ? 0 : (int) (1000000L * officers.get(o)[0] / all);
    }

    int hear(boolean faces, int tens) {
        if (now == null || tens < 0 || tens > 999 || heard.size() == 8) {
            return NONE;
        }
        heard.add(new int[] {faces ? 1 : 0, tens});
        return heard.size();
    }

    int lookAt(int berth, boolean same) {
        if (!person(berth) || looks.size() == 10) {
            return NONE;
        }
        looks.add(new int[] {berth, same ? 1 : 0});
        return looks.size();
    }

    /** Whether the face at a BERTH is the one that was there at first, if this way is so. */
    private int sameAt(int way, int berth) {
        int lies = berth;
        if (way > 0) {
            int one = (way - 101) / 10;
            int other = (way - 101) % 10;
            lies = berth == one ? other : berth == other ? one : berth;
        }
        return people.get(lies)[4] == people.get(berth)[4] ? 1 : 0;
    }

    private List<Integer> ways() {
        List<Integer> ways = new ArrayList<>();
        ways.add(0);
        for (int a = 0; a < people.size(); a++) {
            for (int b = a + 1; b < people.size(); b++) {
                if (people.get(a)[4] != people.get(b)[4]) {
                    ways.add(101 + 10 * a + b);
                }
            }
        }
        ways.removeIf(way -> {
            for (int[] look : looks) {
                if (sameAt(way, look[0]) != look[1]) {
                    return true;
                }
            }
            return false;
        });
        return ways;
    }

    private static int pick(List<Integer> from, int i) {
        return i == NONE ? from.size() : i >= 0 && i < from.size() ? from.get(i) : NONE;
    }

    int fit(int i) {
        return now == null ? NONE : pick(ways(), i);
    }

    int best() {
        if (now == null || ways().isEmpty()) {
            return NONE;
        }
        int best = NONE;
        int least = Integer.MAX_VALUE;
        for (int berth = 0; berth < people.size(); berth++) {
            int yes = 0;
            int no = 0;
            for (int way : ways()) {
                if (sameAt(way, berth) == 1) {
                    yes++;
                } else {
                    no++;
                }
            }
            if (Math.abs(yes - no) < least) {
                least = Math.abs(yes - no);
                best = berth;
            }
        }
        return best;
    }

    int heads(int n, int i) {
        if (now == null || n < 0 || n > 9) {
            return NONE;
        }
        List<Integer> sets = new ArrayList<>();
        for (int set = 0; set < 1 << people.size(); set++) {
            int many = 0;
            boolean can = true;
            for (int k = 0; k < people.size(); k++) {
                boolean in = (set >> k & 1) == 1;
                can &= !(in && paper(k));
                many += in || paper(k) ? 1 : 0;
            }
            if (can && many == n) {
                sets.add(set);
            }
        }
        return pick(sets, i);
    }

    int give(int what) {
        if (now == null || what < 0 || what > 1) {
            return NONE;
        }
        int n = people.size();
        if (n > 7) {
            return HIDDEN;
        }
        List<Integer> sorted = new ArrayList<>();
        for (int i = 0; i < n; i++) {
            sorted.add(i);
        }
        List<List<Integer>> all = new ArrayList<>();
        permute(sorted, new ArrayList<>(), all);
        int best = Integer.MAX_VALUE;
        int found = 0;
        for (List<Integer> row : all) {
            int trouble = 0;
            for (int b = 0; b < n; b++) {
                int nerves = people.get(row.get(b))[2];
                trouble += nerves * (n - 1 - b);
                trouble += b > 0 ? nerves * people.get(row.get(b - 1))[3] : 0;
                trouble += b < n - 1 ? nerves * people.get(row.get(b + 1))[3] : 0;
            }
            if (trouble < best) {
                best = trouble;
                found = digits(row);
            }
        }
        return what == 0 ? found : best;
    }

    int between() {
        if (now == null) {
            return NONE;
        }
        int bits = 0;
        for (int i = 0; i < people.size(); i++) {
            bits |= !now.asleep[i] && loss(now, i, 0, 9) > rules[1] ? 1 << i : 0;
        }
        return bits;
    }

    int favour(int o, int n, int x, int y, int what) {
        if (!post(o) || n < 1 || n > 9 || x < 0 || x > 1 || y < 0 || y > 1 || what < 0 || what > 1) {
            return HIDDEN;
        }
        int all = 0;
        for (int i : now.drawer) {
            all += loss(now, i, 0, 9);
        }
        int has = 0;
        int his = 0;
        for (int night = 1; night <= n; night++) {
            has += night > 1 && x == 1 && y == 0 ? officers.get(o)[3] : 0;
            has -= x == 1 ? 2 : 0;
            has -= y == 1 ? all / 10 : 0;
            his += x == 1 ? 3 : 0;
            his += y == 1 ? 1 : 0;
            his -= x == 1 && y == 1 ? 2 : 0;
        }
        return what == 0 ? has : his;
    }

    int rests(int o, int n, int i) {
        if (!post(o) || n < 1 || n > 9) {
            return NONE;
        }
        List<Integer> all = new ArrayList<>();
        for (int xy : new int[] {0, 1, 10, 11}) {
            int x = xy / 10;
            int y = xy % 10;
            if (favour(o, n, 1 - x, y, 0) <= favour(o, n, x, y, 0) && favour(o, n, x, 1 - y, 1) <= favour(o, n, x, y, 1)) {
                all.add(xy);
            }
        }
        return pick(all, i);
    }

    int which(int set) {
        if (now == null || set < 0 || set >= 1 << people.size()) {
            return NONE;
        }
        int bits = 0;
        for (int o = 0; o < officers.size(); o++) {
            State s = now.copy();
            pass(s, o, null);
            int woken = 0;
            for (int i = 0; i < people.size(); i++) {
                woken |= s.woken[i] > now.woken[i] ? 1 << i : 0;
            }
            bits |= woken == set ? 1 << o : 0;
        }
        return bits;
    }

    int woken(int i) {
        return person(i) ? now.woken[i] : NONE;
    }

    int tired() {
        int found = NONE;
        for (int i = 0; i < people.size(); i++) {
            if (now.lost[i] > 0 && (found == NONE || now.lost[i] > now.lost[found])) {
                found = i;
            }
        }
        return found;
    }

    int beside(int i) {
        if (!person(i)) {
            return NONE;
        }
        int bits = 0;
        for (int k = 0; k < people.size(); k++) {
            bits |= now.berth[k] + 1 == now.berth[i] || now.berth[i] + 1 == now.berth[k] ? 1 << k : 0;
        }
        return bits;
    }

    int slack(int o) {
        return post(o) ? 6 * rules[0] - time(o, 0) : HIDDEN;
    }

    int longest(int o) {
        if (!post(o)) {
            return NONE;
        }
        int[] ends = new int[now.drawer.size()];
        pass(now.copy(), o, ends);
        int found = NONE;
        int last = -1;
        for (int place = 0; place < ends.length; place++) {
            if (people.get(now.drawer.get(place))[1] > 0 && ends[place] > last) {
                last = ends[place];
                found = now.drawer.get(place);
            }
        }
        return found;
    }

    int image() {
        if (now == null) {
            return NONE;
        }
        image = now.copy();
        return now.sleepers();
    }

    int back() {
        if (image == null) {
            return NONE;
        }
        now = image.copy();
        past.clear();
        return now.sleepers();
    }

    int count(int what) {
        switch (what) {
            case 0: return people.size();
            case 1: return officers.size();
            case 2: return laws.size();
            case 3: return lines.size();
            case 4: return tape.length();
            case 5: return held;
            case 6: return now == null ? 0 : now.drawer.size();
            case 7: return now == null ? 0 : now.sleepers();
            case 8: return drowsy;
            case 9: return heard.size();
            case 10: return looks.size();
            case 11: return now == null ? 0 : now.log.size();
            case 12: return past.size();
            case 13: return now == null ? 0 : now.lostAll();
            default: return HIDDEN;
        }
    }
}
