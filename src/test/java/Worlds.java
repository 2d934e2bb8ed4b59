/** Objects to which something has happened already, so that a change behind a refused call would be seen. */
final class Worlds {
    /** Sleeper 1 LACKS nothing, 2 is a CHILD; OFFICER 0 looks at papers alone, 1 at FACES. */
    static final String CAR = "sa2g20c1e3;pt2l2n3s4;pt3n6s1f1;pt1l5c1;pt4l1f2;ow2f0k2;ow1f1t1k1";

    private Worlds() {
    }

    /** No CAR, but all that can be without one. */
    static WokenBorder shelf() {
        WokenBorder x = new WokenBorder();
        Due.tell(x, 1, "y:n+w+t+1");
        Due.tell(x, 1, "y:40");
        Due.tell(x, 2, "w0;b1;l0");
        x.law(0);
        x.drowsy(30);
        Due.feed(x, "p;o");
        return x;
    }

    /** Six ACTS, a BORDER in the LOG, an IMAGE, something HEARD, a LOOK, and bytes on the TAPE. */
    static WokenBorder lived() {
        WokenBorder x = shelf();
        Due.tell(x, 0, CAR);
        x.hear(true, 5);
        x.lookAt(1, true);
        x.say(0, 2);
        x.move(3, 0);
        x.swap(0, 1);
        x.wake(1);
        x.image();
        x.border(1);
        x.lie(3);
        Due.feed(x, "p;o");
        return x;
    }

    static WokenBorder withTape(String text) {
        WokenBorder x = lived();
        Due.feed(x, text);
        return x;
    }

    /** A CAR to which nothing has happened yet, and a LAW that holds ("": none). */
    static WokenBorder car(String car, String law) {
        WokenBorder x = Due.car(car);
        if (!law.isEmpty()) {
            if (Due.tell(x, 1, law) != 0) {
                throw new IllegalStateException("no such law: " + law);
            }
            x.law(0);
        }
        return x;
    }

    static WokenBorder withLaws(int n) {
        WokenBorder x = new WokenBorder();
        for (int i = 0; i < n; i++) {
            Due.tell(x, 1, "y:" + (20 + i));
        }
        Due.tell(x, 0, CAR);
        return x;
    }

    static WokenBorder withTape(WokenBorder x, String text) {
        Due.feed(x, text);
        return x;
    }

    static WokenBorder withLines(int n) {
        WokenBorder x = Due.car(CAR);
        for (int i = 0; i < n; i++) {
            Due.tell(x, 2, "w" + i + ";b1");
        }
        return x;
    }

    static WokenBorder swapped(int times) {
        WokenBorder x = Due.car("p;p;o");
        for (int i = 0; i < times; i++) {
            x.swap(0, 1);
        }
        return x;
    }

    static WokenBorder passed(String car, int times) {
        WokenBorder x = Due.car(car);
        for (int i = 0; i < times; i++) {
            x.border(0);
        }
        return x;
    }

    static WokenBorder undone(WokenBorder x, int times) {
        for (int i = 0; i < times; i++) {
            x.undo();
        }
        return x;
    }

    static WokenBorder livedWith(String lines) {
        WokenBorder x = lived();
        Due.tell(x, 2, lines);
        return x;
    }
}
