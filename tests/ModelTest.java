/** Long runs of calls against a second, plain telling of the war (Model); all promises on it at once. */
public final class ModelTest {
    private static int seed = 20;

    public static void main(String[] args) {
        int won = 0;
        for (int run = 0; run < 400; run++) {
            won += run(run) ? 1 : 0;
        }
        for (int i = 0; i < 60000; i++) {
            faults();
        }
        Due.is("wars were won, and others not", won > 40 && won < 360, true);
        Due.is("texts were told", told > 2000, true);
        Due.is("FAULTS of each kind were found", faults[1] > 1000 && faults[2] > 1000 && faults[3] > 100, true);
        Due.close("ModelTest (" + won + " won, " + told + " texts, faults " + faults[1] + " " + faults[2] + " "
            + faults[3] + ")");
    }

    private static int told = 0;
    private static final int[] faults = new int[4];

    private static int some(int m) {
        seed = seed * 1103515245 + 12345;
        return (seed >>> 16) % m;
    }

    private static String one(String... of) {
        return of[some(of.length)];
    }

    // ---- texts ----

    private static String blank() {
        return one("", "", " ", "\n", "  ");
    }

    private static String unit() {
        return some(3) == 0 ? "" + some(some(4) == 0 ? 10000 : 30)
            : one("skill", "sleep", "plan", "hole", "care", "wear", "line", "side", "done", "day");
    }

    private static String sum() {
        StringBuilder s = new StringBuilder(unit());
        for (int i = some(4); i > 0; i--) {
            s.append(blank());
            s.append(some(4) == 0 ? "/" + blank() + (1 + some(some(3) == 0 ? 9999 : 20))
                : one("+", "-", "*") + blank() + unit());
        }
        return s.toString();
    }

    private static String condition(int depth) {
        StringBuilder s = new StringBuilder();
        do {
            s.append(s.length() > 0 ? " " + one("and", "or", "and", "or") + " " : "");
            switch (depth < 1 ? 3 : some(5)) {
                case 0 -> s.append("(" + blank() + condition(depth - 1) + blank() + ")");
                case 1 -> {
                    s.append("not ");
                    s.append(some(2) == 0 ? "(" + condition(depth - 2) + ")" : sum() + one("<", "=", ">") + sum());
                }
                default -> s.append(sum() + blank() + one("<", "=", ">") + blank() + sum());
            }
        } while (some(3) == 0);
        return s.toString();
    }

    private static String lawLine() {
        String word = one("presses", "rests", "reads");
        return word + " " + (some(3) == 0 ? "" + some(word.equals("reads") ? 1200 : 30) : sum())
            + (some(3) > 0 ? " when " + condition(some(7)) : "") + ";";
    }

    private static String line(Model m, int k) {
        int officers = Math.max(1, m.s.officers.size() + (some(40) == 0 ? 1 : 0));
        int batmen = Math.max(1, m.s.batmen.size() + (some(40) == 0 ? 1 : 0));
        switch (k) {
            case 0:
                return lawLine();
            case 1:
                String on = "on " + (some(30) == 0 ? some(1010) : m.s.day + some(6)) + " ";
                String order = one("march", "march", "hole", "sole", "new", "truce");
                return on + order + (order.equals("truce") ? "" : " " + some(order.equals("new") ? batmen : officers))
                    + (order.equals("march") ? " " + (some(20) == 0 ? 100 : 1 + some(99)) : "") + blank() + ";";
            default:
                int a = some(officers);
                int b = some(k == 2 ? batmen : officers);
                for (int turn = 0; turn < 8 && a < m.s.officers.size(); turn++) {
                    int side = m.s.officers.get(a)[0];
                    boolean good = k == 2 ? b < m.s.batmen.size() && m.s.batmen.get(b)[0] != side
                        : b < m.s.officers.size() && m.s.officers.get(b)[0] == side && a != b;
                    b = good ? b : some(k == 2 ? batmen : officers);
                }
                return "officer " + a + blank() + (k == 2 ? "batman " : "needs ") + b + ";" + blank();
        }
    }

    private static String text(Model m, int k) {
        StringBuilder s = new StringBuilder();
        int lines = some(20) == 0 ? 18 : some(k == 0 ? 6 : 12);
        for (int i = 0; i < lines; i++) {
            String line = line(m, k);
            if (s.length() + line.length() <= 400) {
                s.append(line);
            }
        }
        return s.toString();
    }

    private static String broken(String text) {
        int at = some(text.length() + 1);
        String word = one("officer", "batman", "needs", "on", "march", "hole", "sole", "new", "truce", "when", "and",
            "or", "not", "not", "presses", "rests", "reads", "skill", "x", ";", "+", "-", "*", "/", "(", "(", ")",
            "<", "=", ">", "12345", "0", "1", "99", "7", " ", "\n", "?", "\t", "Z");
        String cut = text.substring(0, at) + one(word, " " + word + " ", "")
            + text.substring(Math.min(text.length(), at + some(4)));
        return cut.length() > 400 ? cut.substring(0, 400) : cut;
    }

    private static void tell(SlipperTruce x, Model m, int k, String text) {
        int due = m.tell(k, text);
        told += due >= 0 ? 1 : 0;
        faults[m.fault]++;
        Due.is("text(" + k + ") \"" + text + "\"", Due.tell(x, k, text), due);
        Due.is("fault(0) of " + k + " \"" + text + "\"", x.fault(0), m.fault);
        Due.is("fault(1) of " + k + " \"" + text + "\"", x.fault(1), m.place);
    }

    private static void faults() {
        SlipperTruce x = FAULTY;
        Model m = FAULTY_MODEL;
        if (m.s.officers.isEmpty()) {
            for (int i = 0; i < 6; i++) {
                x.officer(i % 2, i);
                m.officer(i % 2, i);
                x.batman(i / 3, i);
                m.batman(i / 3, i);
            }
        }
        int k = some(5) > 1 ? 0 : some(4);
        String text = text(m, k);
        for (int i = some(3); i > 0; i--) {
            text = broken(text);
        }
        if (k == 0 && some(4) == 0) {
            text = "reads 1 when " + one("not ", "(", "not(").repeat(some(10)) + one("(", "not ", "").repeat(some(5))
                + "1=1" + ")".repeat(some(12)) + ";";
        }
        tell(x, m, k, text);
    }

    private static final SlipperTruce FAULTY = new SlipperTruce();
    private static final Model FAULTY_MODEL = new Model();

    // ---- runs ----

    private static void same(SlipperTruce x, Model m, String call) {
        for (int i = -1; i <= 13; i++) {
            Due.is("look(" + i + ") behind " + call, x.look(i), m.look(i));
        }
        for (int i = -1; i <= 12; i++) {
            for (int what = -1; what <= 13; what++) {
                Due.is("of(" + i + ", " + what + ") behind " + call, x.of(i, what), m.of(i, what));
            }
            for (int what = -1; what <= 4; what++) {
                Due.is("who(" + i + ", " + what + ") behind " + call, x.who(i, what), m.who(i, what));
            }
        }
        for (int i = Math.max(0, m.s.book.size() - 12); i <= m.s.book.size(); i++) {
            for (int what = -1; what <= 4; what++) {
                Due.is("book(" + i + ", " + what + ") behind " + call, x.book(i, what), m.book(i, what));
            }
        }
    }

    private static boolean run(int run) {
        SlipperTruce x = new SlipperTruce();
        Model m = new Model();
        int officers = some(13);
        int batmen = some(13);
        for (int i = 0; i < officers; i++) {
            int side = some(2);
            int skill = some(run % 3 == 0 ? 3 : 10);
            Due.is("officer", x.officer(side, skill), m.officer(side, skill));
        }
        for (int i = 0; i < batmen; i++) {
            int side = some(2);
            int care = some(10);
            Due.is("batman", x.batman(side, care), m.batman(side, care));
        }
        int v = some(1 << 15) * 77777;
        Due.is("state", x.state(v), m.state(v));
        boolean won = false;
        for (int step = 0; step < 60; step++) {
            String call = "run " + run + " step " + step + ": " + step(x, m);
            same(x, m, call);
            if (step % 6 == 0) {
                int n = 1 + some(60);
                for (int what = 0; what < 4; what++) {
                    Due.is("goes(" + n + ", " + what + ") behind " + call, x.goes(n, what), m.goes(n, what));
                }
                Due.is("peace() behind " + call, x.peace(), m.peace());
            }
            won = won || m.s.won >= 0;
        }
        return won;
    }

    private static String step(SlipperTruce x, Model m) {
        int a = some(8);
        int who = some(14) - 1;
        int v = some(20) == 0 ? some(300) - 100 : some(100);
        switch (some(20)) {
            case 0, 1, 2, 3, 4:
                int n = some(6) == 0 ? some(63) - 1 : 1 + some(3);
                Due.is("days(" + n + ")", x.days(n), m.days(n));
                return "days " + n;
            case 5, 6, 7, 8:
                int what = some(5);
                Due.is("act", x.act(what, who, v), m.act(what, who, v));
                return "act " + what + " " + who + " " + v;
            case 9:
                int which = some(8) - 1;
                int to = which == 0 || which == 3 ? some(11) : some(101);
                Due.is("set", x.set(which, who, to), m.set(which, who, to));
                return "set " + which + " " + who + " " + to;
            case 10:
                Due.is("set the line", x.set(5, who, v - 50), m.set(5, who, v - 50));
                return "set line " + (v - 50);
            case 11, 12:
                Due.is("undo", x.undo(), m.undo());
                return "undo";
            case 13:
                boolean taken = a < 3;
                Due.is("image", x.image(taken), m.image(taken));
                return "image " + taken;
            case 14:
                if (a < 2) {
                    Due.is("officer", x.officer(a, some(12)), m.officer(a, lastSome()));
                    return "officer";
                }
                Due.is("batman", x.batman(a - 2, some(12)), m.batman(a - 2, lastSome()));
                return "batman";
            default:
                int k = a < 5 ? a : some(6) - 1;
                String text = text(m, Math.max(0, Math.min(3, k)));
                if (some(12) == 0) {
                    text = broken(text);
                }
                tell(x, m, k, text);
                return "text " + k + " " + text;
        }
    }

    /** What some(12) told just now. */
    private static int lastSome() {
        return (seed >>> 16) % 12;
    }
}
