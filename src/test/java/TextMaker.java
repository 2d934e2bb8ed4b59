import java.util.Random;

/** Texts by draws: CARS, LAWS, LINES, and such with something spoilt. */
final class TextMaker {
    private TextMaker() {
    }

    private static String blank(Random r, boolean airy) {
        return airy && r.nextInt(5) == 0 ? " ".repeat(1 + r.nextInt(2)) : "";
    }

    static String car(Random r, boolean small) {
        boolean airy = r.nextInt(6) == 0;
        int people = 1 + r.nextInt(small ? 5 : 9);
        int grown = r.nextInt(people);
        int posts = 1 + r.nextInt(4);
        boolean bigAllowance = r.nextBoolean();
        StringBuilder b = new StringBuilder();
        if (r.nextInt(5) > 0) {
            b.append('s');
            item(r, b, airy, 'a', 1, bigAllowance ? 60 : 12, 9);
            item(r, b, airy, 'g', 0, 30, 2);
            item(r, b, airy, 'c', 0, 4, 2);
            item(r, b, airy, 'e', 0, 9, 2);
            b.append(';');
        }
        for (int i = 0; i < people; i++) {
            b.append(blank(r, airy)).append('p');
            item(r, b, airy, 't', 1, 9, 2);
            item(r, b, airy, 'l', 0, bigAllowance ? 9 : 4, 3);
            item(r, b, airy, 'n', 0, 9, 2);
            item(r, b, airy, 's', 0, 9, 2);
            item(r, b, airy, 'f', 0, 3, 2);
            if (i != grown && r.nextInt(4) == 0) {
                b.append("c1");
            }
            b.append(';');
        }
        for (int i = 0; i < posts; i++) {
            b.append(i > 0 ? ";" : "").append('o');
            item(r, b, airy, 'f', 0, 1, 3);
            item(r, b, airy, 'w', 0, r.nextInt(4) == 0 ? 0 : 9, 2);
            item(r, b, airy, 't', 0, 9, 2);
            item(r, b, airy, 'k', 0, 9, 2);
        }
        return b.length() > 240 ? car(r, small) : b.toString();
    }

    private static void item(Random r, StringBuilder b, boolean airy, char c, int low, int high, int of) {
        if (r.nextInt(of + 1) > 0) {
            b.append(blank(r, airy)).append(c).append(blank(r, airy)).append(low + r.nextInt(high - low + 1));
            b.append(blank(r, airy));
        }
    }

    static String law(Random r) {
        boolean airy = r.nextInt(6) == 0;
        StringBuilder b = new StringBuilder();
        int clauses = 1 + r.nextInt(4);
        for (int i = 0; i < clauses; i++) {
            b.append(i > 0 ? ";" : "").append('y').append(blank(r, airy)).append(':');
            if (r.nextInt(3) > 0) {
                condition(r, b, airy, 0);
                b.append('?');
            }
            sum(r, b, airy, 0);
        }
        return b.length() > 240 ? law(r) : b.toString();
    }

    private static void condition(Random r, StringBuilder b, boolean airy, int depth) {
        unit(r, b, airy, depth);
        while (r.nextInt(3) == 0) {
            b.append(r.nextBoolean() ? '|' : '&');
            unit(r, b, airy, depth);
        }
    }

    private static void unit(Random r, StringBuilder b, boolean airy, int depth) {
        int kind = r.nextInt(5);
        b.append(blank(r, airy));
        if (kind == 0 && depth < 6) {
            b.append('!');
            unit(r, b, airy, depth + 1);
        } else if (kind == 1 && depth < 6) {
            b.append('(');
            condition(r, b, airy, depth + 1);
            b.append(')');
        } else {
            sum(r, b, airy, depth);
            b.append("=<>".charAt(r.nextInt(3)));
            sum(r, b, airy, depth);
        }
    }

    private static void sum(Random r, StringBuilder b, boolean airy, int depth) {
        atom(r, b, airy, depth);
        while (r.nextInt(5) < 2) {
            b.append("+-*/".charAt(r.nextInt(4)));
            atom(r, b, airy, depth);
        }
    }

    private static void atom(Random r, StringBuilder b, boolean airy, int depth) {
        int kind = r.nextInt(8);
        b.append(blank(r, airy));
        if (kind == 0 && depth < 6) {
            b.append('[');
            sum(r, b, airy, depth + 1);
            b.append(']');
        } else if (kind < 3) {
            b.append(r.nextInt(r.nextInt(4) == 0 ? 10000 : 12));
        } else {
            b.append("nwtcos".charAt(r.nextInt(6)));
        }
        b.append(blank(r, airy));
    }

    static String lines(Random r) {
        boolean airy = r.nextInt(6) == 0;
        StringBuilder b = new StringBuilder();
        int steps = 1 + r.nextInt(r.nextInt(4) == 0 ? 16 : 5);
        for (int i = 0; i < steps; i++) {
            char c = "mywlxbb".charAt(r.nextInt(7));
            b.append(i > 0 ? ";" : "").append(blank(r, airy)).append(c).append(blank(r, airy));
            b.append(r.nextInt(c == 'b' ? 3 : 5));
            if (c == 'm' || c == 'x' || c == 'y') {
                b.append(blank(r, airy)).append(r.nextInt(c == 'y' ? 3 : 5));
            }
        }
        return b.toString();
    }

    /** A good text with a byte put in, taken out or changed, or its end cut off, or no good text at all. */
    static String spoilt(Random r) {
        String signs = "spoagcetlnfwkymxb0123456789;:?!()[]+-*/=<>|& \u00e9";
        String[] good = {car(r, r.nextInt(3) > 0), law(r), lines(r), lines(r) + ";" + lines(r) + ";" + lines(r),
            "y:" + "[!(".repeat(3) + "n=1)", "y:![[[[[[1]]]]]]=1?2", "pc1;".repeat(9) + "o", "p;".repeat(10) + "o", ""};
        StringBuilder b = new StringBuilder(good[r.nextInt(good.length)]);
        for (int k = r.nextInt(3); k >= 0; k--) {
            char c = signs.charAt(r.nextInt(signs.length()));
            int at = r.nextInt(b.length() + 1);
            int how = r.nextInt(5);
            if (how < 2 || b.length() == 0) {
                b.insert(at, c);
            } else if (how == 2) {
                b.deleteCharAt(Math.min(at, b.length() - 1));
            } else if (how == 3) {
                b.setCharAt(Math.min(at, b.length() - 1), c);
            } else {
                b.setLength(at);
            }
        }
        return b.length() > 250 ? b.substring(0, 250) : b.toString();
    }
}
