import java.util.NoSuchElementException;
import java.util.Random;

/** Long runs of calls by fixed seeds, each answer held against PlainModel's. */
final class ModelTest {
    private static final int RUNS = 3000;
    private static final int THROWS = -987654321;

    private final Random random;
    private final int run;
    private final WokenBorder real = new WokenBorder();
    private final PlainModel model = new PlainModel();
    private final StringBuilder calls = new StringBuilder();
    private int made;
    private int wrong;

    private ModelTest(int run) {
        this.run = run;
        // Seeds that lie side by side begin with draws alike, so they are spread.
        this.random = new Random(run * 0x9E3779B97F4A7C15L);
    }

    public static void main(String[] args) {
        int wrong = 0;
        int calls = 0;
        for (int run = 0; run < RUNS && wrong == 0; run++) {
            ModelTest test = new ModelTest(run);
            test.play();
            wrong += test.wrong;
            calls += test.made;
        }
        System.out.println("ModelTest: " + calls + " calls, " + wrong + " wrong");
        if (wrong != 0) {
            System.exit(1);
        }
    }

    private void due(String call, long got, long want) {
        made++;
        calls.append(call).append(" = ").append(got).append('\n');
        if (got != want) {
            wrong++;
            System.out.println(calls);
            System.out.println("run " + run + ": " + call + " answered " + got + ", due is " + want);
        }
    }

    private void play() {
        boolean small = random.nextInt(5) < 3;
        tell(0, TextMaker.car(random, small));
        for (int i = random.nextInt(5); i > 0; i--) {
            tell(2, TextMaker.lines(random));
        }
        int most = made + 40 + random.nextInt(400);
        while (made < most && wrong == 0) {
            int kind = random.nextInt(400);
            if (kind < 1) {
                tell(0, TextMaker.car(random, small));
            } else if (kind < 8) {
                tell(1, TextMaker.law(random));
                law(random.nextInt(6) - 1);
            } else if (kind < 12) {
                tell(2, TextMaker.lines(random));
            } else if (kind < 20) {
                tell(random.nextInt(4), TextMaker.spoilt(random));
            } else if (kind < 22) {
                sweep();
            } else {
                call(random.nextInt(46));
            }
        }
        sweep();
    }

    /** All that can be seen of the state, one by one. */
    private void sweep() {
        for (int i = 0; i < model.count(0); i++) {
            for (int what = 0; what <= 10; what++) {
                due("sleeper(" + i + ", " + what + ")", realSleeper(i, what), modelSleeper(i, what));
            }
            due("woken(" + i + ")", real.woken(i), model.woken(i));
        }
        for (int i = 0; i < model.count(11); i++) {
            for (int what = 0; what < 4; what++) {
                due("log(" + i + ", " + what + ")", real.log(i, what), model.log(i, what));
            }
        }
        for (int what = 0; what <= 14; what++) {
            due("count(" + what + ")", real.count(what), model.count(what));
            due("rule(" + what + ")", real.rule(what), model.rule(what));
        }
    }

    private void tell(int sort, String text) {
        due("end(0)", real.end(0) ? 1 : 0, model.end(0) ? 1 : 0);
        for (int from = 0; from < text.length(); from += 20) {
            int[] v = new int[5];
            for (int i = 0; i < 20; i++) {
                int sign = from + i < text.length() ? text.charAt(from + i) : 0;
                v[i / 4] = v[i / 4] << 8 | sign;
            }
            due("feed '" + text + "' at " + from, real.feed(v[0], v[1], v[2], v[3], v[4]),
                    model.feed(v[0], v[1], v[2], v[3], v[4]));
        }
        due("fault(" + sort + ")", real.fault(sort), model.fault(sort));
        due("text(" + sort + ")", real.text(sort), model.text(sort));
    }

    private void law(int i) {
        due("law(" + i + ")", real.law(i) ? 1 : 0, model.law(i) ? 1 : 0);
    }

    /** Mostly what there is, now and then what is not. */
    private int near(int below) {
        int dice = random.nextInt(30);
        return dice == 0 ? -1 : dice == 1 ? below : dice == 2 ? random.nextInt() : random.nextInt(Math.max(1, below));
    }

    private int who() {
        return near(model.count(0));
    }

    private int post() {
        return near(model.count(1));
    }

    private int either() {
        return near(2);
    }

    private void call(int which) {
        switch (which) {
            case 0: case 1: case 2: case 3: case 4: case 5: case 6: case 7: case 8: case 9: case 10:
                act(which);
                break;
            case 11: case 12: case 13: case 14: case 15: case 16: case 17:
                remember(which);
                break;
            case 18: case 19: case 20: case 21: case 22: case 23: case 24: case 25: case 26: case 27:
                look(which);
                break;
            case 28: case 29: case 30: case 31: case 32: case 33: case 34:
                plan(which);
                break;
            default:
                guess(which);
        }
    }

    private void act(int which) {
        int a = who();
        int b = who();
        switch (which) {
            case 0: case 1:
                due("move(" + a + ", " + b + ")", real.move(a, b), model.act(0, a, b));
                break;
            case 2: case 3:
                b = random.nextBoolean() ? 2 : near(3);
                due("say(" + a + ", " + b + ")", real.say(a, b), model.act(1, a, b));
                break;
            case 4: case 5:
                due("wake(" + a + ")", real.wake(a), model.act(2, a, -1));
                break;
            case 6: case 7:
                due("lie(" + a + ")", real.lie(a), model.act(3, a, -1));
                break;
            case 8:
                due("swap(" + a + ", " + b + ")", real.swap(a, b), model.act(4, a, b));
                break;
            default:
                a = post();
                due("border(" + a + ")", real.border(a), model.act(5, a, -1));
        }
    }

    private void remember(int which) {
        if (which == 11) {
            int n = near(21);
            long seed = random.nextInt(3) == 0 ? random.nextInt(10) - 5 : random.nextLong();
            due("nights(" + n + ", " + seed + ")", real.nights(n, seed), model.nights(n, seed));
        } else if (which <= 12) {
            for (int k = random.nextInt(random.nextInt(12) == 0 ? 45 : 3); k >= 0; k--) {
                due("undo()", real.undo(), model.undo());
            }
        } else if (which <= 15) {
            int l = near(4);
            due("perform(" + l + ")", real.perform(l), model.perform(l));
        } else if (which == 16) {
            due("image()", real.image(), model.image());
        } else if (random.nextBoolean()) {
            due("back()", real.back(), model.back());
        } else {
            int v = near(100);
            due("drowsy(" + v + ")", real.drowsy(v) ? 1 : 0, model.drowsy(v) ? 1 : 0);
            law(random.nextInt(6) - 1);
        }
    }

    private int realSleeper(int a, int b) {
        try {
            return real.sleeper(a, b);
        } catch (NoSuchElementException none) {
            return THROWS;
        }
    }

    private int modelSleeper(int a, int b) {
        try {
            return model.sleeper(a, b);
        } catch (NoSuchElementException none) {
            return THROWS;
        }
    }

    private void look(int which) {
        int a = who();
        int b = near(11);
        switch (which) {
            case 18: case 19:
                due("sleeper(" + a + ", " + b + ")", realSleeper(a, b), modelSleeper(a, b));
                break;
            case 20:
                b = near(4);
                due("rule(" + b + ")", real.rule(b), model.rule(b));
                a = post();
                due("officer(" + a + ", " + b + ")", real.officer(a, b), model.officer(a, b));
                break;
            case 21:
                a = near(60);
                b = near(4);
                due("log(" + a + ", " + b + ")", real.log(a, b), model.log(a, b));
                a = model.count(11) - 1;
                due("log(" + a + ", " + b + ")", real.log(a, b), model.log(a, b));
                break;
            case 22:
                int l = near(4);
                a = near(random.nextInt(4) == 0 ? 16 : 3);
                b = near(3);
                due("step(" + l + ", " + a + ", " + b + ")", real.step(l, a, b), model.step(l, a, b));
                break;
            case 23: case 24:
                a = near(4);
                b = either();
                due("run(" + a + ", " + b + ")", real.run(a, b), model.run(a, b));
                break;
            case 25:
                due("woken(" + a + ")", real.woken(a), model.woken(a));
                due("beside(" + a + ")", real.beside(a), model.beside(a));
                break;
            case 26:
                due("tired()", real.tired(), model.tired());
                due("between()", real.between(), model.between());
                break;
            default:
                b = near(14);
                due("count(" + b + ")", real.count(b), model.count(b));
        }
    }

    private void plan(int which) {
        int o = post();
        int w = either();
        switch (which) {
            case 28:
                due("time(" + o + ", " + w + ")", real.time(o, w), model.time(o, w));
                break;
            case 29:
                due("order(" + o + ", " + w + ")", real.order(o, w), model.order(o, w));
                break;
            case 30:
                due("bound(" + o + ")", real.bound(o), model.bound(o));
                break;
            case 31:
                due("before(" + w + ")", real.before(w), model.before(w));
                break;
            case 32:
                due("words(" + w + ")", real.words(w), model.words(w));
                break;
            case 33:
                due("give(" + w + ")", real.give(w), model.give(w));
                break;
            default:
                due("slack(" + o + ")", real.slack(o), model.slack(o));
                due("longest(" + o + ")", real.longest(o), model.longest(o));
        }
    }

    private void guess(int which) {
        int o = post();
        boolean yes = random.nextBoolean();
        switch (which) {
            case 35: case 36:
                due("tonight(" + o + ")", real.tonight(o), model.tonight(o));
                break;
            case 37:
                int tens = random.nextInt(3) > 0 ? random.nextInt(30) : near(1000);
                due("hear(" + yes + ", " + tens + ")", real.hear(yes, tens), model.hear(yes, tens));
                break;
            case 38:
                int berth = who();
                boolean same = random.nextInt(3) > 0;
                due("lookAt(" + berth + ", " + same + ")", real.lookAt(berth, same), model.lookAt(berth, same));
                break;
            case 39: case 40:
                int i = random.nextInt(40) - 2;
                due("fit(" + i + ")", real.fit(i), model.fit(i));
                due("fit(-1)", real.fit(-1), model.fit(-1));
                due("best()", real.best(), model.best());
                break;
            case 41:
                int n = random.nextInt(6) == 0 ? near(10) : model.count(6) + random.nextInt(3);
                i = random.nextInt(6) - 2;
                due("heads(" + n + ", " + i + ")", real.heads(n, i), model.heads(n, i));
                break;
            case 42:
                n = random.nextInt(11);
                int x = either();
                int y = either();
                int w = either();
                due("favour(" + o + "," + n + "," + x + "," + y + "," + w + ")", real.favour(o, n, x, y, w),
                        model.favour(o, n, x, y, w));
                break;
            case 43:
                n = random.nextInt(11);
                i = random.nextInt(5) - 2;
                due("rests(" + o + "," + n + "," + i + ")", real.rests(o, n, i), model.rests(o, n, i));
                break;
            default:
                int set = asleepWithPapers();
                set = random.nextInt(3) == 0 ? near(1 << model.count(0)) : random.nextBoolean() ? set : 0;
                due("which(" + set + ")", real.which(set), model.which(set));
        }
    }

    private int asleepWithPapers() {
        int set = 0;
        for (int i = 0; i < model.count(0); i++) {
            set |= model.sleeper(i, 5) == 0 && model.sleeper(i, 9) == 1 ? 1 << i : 0;
        }
        return set;
    }
}
