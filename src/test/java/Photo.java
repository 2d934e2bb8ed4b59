import java.util.ArrayList;
import java.util.List;

/** All that can be seen of an object. To see what lies behind, ACTS are UNDONE and the IMAGE is brought back. */
final class Photo {
    private static final int NONE = WokenBorder.NONE;
    private static final int MOST_CALLS = 400;

    private final WokenBorder x;
    private final int sleepers;
    private final int officers;
    private final List<String> seen = new ArrayList<>();
    private int calls = 2;

    Photo(WokenBorder x) {
        this.x = x;
        this.sleepers = x.count(0);
        this.officers = x.count(1);
        counts();
        told();
        sleepers();
        logged();
        steps();
        guessed();
        acts();
        image();
        laws();
        tape();
        toldAnew();
        if (calls > MOST_CALLS) {
            throw new IllegalStateException("a photo took " + calls + " calls: an object serves 512 in all");
        }
    }

    /** The first thing in which they differ; empty if in none. */
    static String difference(Photo one, Photo other) {
        for (int i = 0; i < one.seen.size() && i < other.seen.size(); i++) {
            if (!one.seen.get(i).equals(other.seen.get(i))) {
                return one.seen.get(i) + " (" + other.seen.get(i) + " without it)";
            }
        }
        return one.seen.size() == other.seen.size() ? "" : "how much can be seen";
    }

    private void see(String what, long answer) {
        calls++;
        seen.add(what + " = " + answer);
    }

    private int ask(int answer) {
        calls++;
        return answer;
    }

    private void counts() {
        for (int what = 0; what <= 13; what++) {
            see("count(" + what + ")", x.count(what));
        }
    }

    private void told() {
        for (int what = 0; what < 4; what++) {
            see("rule(" + what + ")", x.rule(what));
        }
        for (int officer = 0; officer < officers; officer++) {
            for (int what = 0; what < 4; what++) {
                see("officer(" + officer + ", " + what + ")", x.officer(officer, what));
            }
            see("time(" + officer + ", 1)", x.time(officer, 1));
        }
    }

    private void sleepers() {
        for (int who = 0; who < sleepers; who++) {
            for (int what = 0; what <= 5; what++) {
                see("sleeper(" + who + ", " + what + ")", Due.sleeper(x, who, what));
            }
        }
        scene("");
    }

    /** What ACTS change. */
    private void scene(String when) {
        for (int who = 0; who < sleepers; who++) {
            for (int what = 6; what <= 10; what++) {
                see("sleeper(" + who + ", " + what + ")" + when, Due.sleeper(x, who, what));
            }
            see("woken(" + who + ")" + when, x.woken(who));
        }
        see("rule(2)" + when, x.rule(2));
        see("count(11)" + when, x.count(11));
        see("log(0, 1)" + when, x.log(0, 1));
    }

    private void logged() {
        int many = ask(x.count(11));
        for (int i = 0; i < many; i++) {
            for (int what = i < 3 ? 0 : 3; what < 4; what++) {
                see("log(" + i + ", " + what + ")", x.log(i, what));
            }
        }
    }

    private void steps() {
        int many = ask(x.count(3));
        for (int lines = 0; lines < many; lines++) {
            for (int i = 0; i < 3; i++) {
                for (int what = 0; what < 3; what++) {
                    see("step(" + lines + ", " + i + ", " + what + ")", x.step(lines, i, what));
                }
            }
        }
    }

    private void guessed() {
        for (int officer = 0; officer < officers; officer++) {
            see("tonight(" + officer + ")", x.tonight(officer));
        }
        int ways = Math.min(4, ask(x.fit(NONE)));
        for (int i = NONE; i < ways; i++) {
            see("fit(" + i + ")", x.fit(i));
        }
    }

    /** Of many ACTS only the latest four and what is behind all of them. */
    private void acts() {
        int many = ask(x.count(12));
        for (int undone = 1; undone <= many; undone++) {
            see("undo()", x.undo());
            if (undone <= 4 || undone == many) {
                scene(" with " + undone + " ACTS UNDONE");
            }
        }
        see("undo() of none", x.undo());
    }

    private void image() {
        see("back()", x.back());
        scene(" behind BACK");
    }

    /** A LAW is seen by the SLEEP that is lost by it. */
    private void laws() {
        int many = ask(x.count(2));
        for (int law = 0; law < many; law++) {
            see("law(" + law + ")", x.law(law) ? 1 : 0);
            see("favour(0, 9, 0, 1, 0) by LAW " + law, x.favour(0, 9, 0, 1, 0));
        }
    }

    /** Nothing that was left behind shows in what is told next. */
    private void toldAnew() {
        calls += 9;
        int law = Due.tell(x, 1, "y:17");
        see("text(1)", law);
        see("law(" + law + ")", x.law(law) ? 1 : 0);
        int lines = Due.tell(x, 2, "w0");
        see("text(2)", lines);
        for (int i = 0; i < 2; i++) {
            see("step(" + lines + ", " + i + ", 0)", x.step(lines, i, 0));
        }
        see("text(0)", Due.tell(x, 0, "p;o"));
        for (int what = 0; what <= 10; what++) {
            see("sleeper(0, " + what + ") of another CAR", Due.sleeper(x, 0, what));
        }
        for (int what = 0; what < 4; what++) {
            see("rule(" + what + ") of another CAR", x.rule(what));
            see("officer(0, " + what + ") of another CAR", x.officer(0, what));
        }
        see("wake(0) of another CAR", x.wake(0));
    }

    /** Bytes are seen by their FAULTS as each sort, from the last few backwards. */
    private void tape() {
        int size = ask(x.count(4));
        for (int n = size; n >= Math.max(0, size - 5); n--) {
            see("end(" + n + ")", x.end(n) ? 1 : 0);
            for (int sort = 0; sort < 3; sort++) {
                see("fault(" + sort + ") of " + n + " bytes", x.fault(sort));
            }
        }
    }
}
