/** Promises 1 to 6, 12, 13, 40: who is there, and what is told and acted by hand. */
public final class OfficersTest {
    public static void main(String[] args) {
        newObject();
        state();
        officers();
        batmen();
        set();
        act();
        of();
        who();
        look();
        Due.close("OfficersTest");
    }

    private static void newObject() {
        SlipperTruce x = new SlipperTruce();
        int[] due = {0, 0, 0, -1, 0, 0, 0, 0, 0, 0, 0, 0, 0};
        for (int i = 0; i < due.length; i++) {
            Due.is("new: look(" + i + ")", x.look(i), due[i]);
        }
        Due.is("NONE", SlipperTruce.NONE, -1);
        Due.is("new: of(0, 0)", x.of(0, 0), -2);
        Due.is("new: who(0, 0)", x.who(0, 0), -1);
        Due.is("new: book(0, 0)", x.book(0, 0), -1);
        Due.is("new: fault(0)", x.fault(0), 0);
        Due.is("new: fault(1)", x.fault(1), -1);
        Due.is("new: undo()", x.undo(), false);
        Due.is("new: image(false)", x.image(false), false);
        Due.is("new: end(1)", x.end(1), false);
        Due.is("new: words(0)", x.words(0), 1296);
        Due.is("new: message(2, 0)", x.message(2, 0), -1);
        Due.is("new: anew(0)", x.anew(0), 0);
        Due.is("new: area()", x.area(), 0);
        Due.is("new: queens(5)", x.queens(5), 10);
    }

    private static void state() {
        SlipperTruce x = new SlipperTruce();
        Due.is("state(7)", x.state(7), 0);
        Due.is("state(-2147483648)", x.state(Integer.MIN_VALUE), 7);
        Due.is("look(7)", x.look(7), Integer.MIN_VALUE);
        Due.is("look(7) again", x.look(7), Integer.MIN_VALUE);
        Due.is("state(0)", x.state(0), Integer.MIN_VALUE);
    }

    private static void officers() {
        SlipperTruce x = new SlipperTruce();
        int[][] wrong = {{-1, 0}, {2, 0}, {0, -1}, {0, 10}, {1, Integer.MAX_VALUE}, {Integer.MIN_VALUE, 5}};
        for (int[] w : wrong) {
            Due.is("officer(" + w[0] + ", " + w[1] + ")", x.officer(w[0], w[1]), -1);
        }
        for (int i = 0; i < 12; i++) {
            Due.is("officer " + i, x.officer(i % 2, i % 10), i);
            Due.is("look(0)", x.look(0), i + 1);
        }
        Due.is("the thirteenth", x.officer(0, 0), -1);
        Due.is("look(0)", x.look(0), 12);
        for (int i = 0; i < 12; i++) {
            int[] due = {i % 2, i % 10, 50, 0, 0, 0, 0, -1, 0, i % 10, 10, 0, 1};
            for (int what = 0; what < due.length; what++) {
                Due.is("of(" + i + ", " + what + ")", x.of(i, what), due[what]);
            }
        }
    }

    private static void batmen() {
        SlipperTruce x = new SlipperTruce();
        int[][] wrong = {{-1, 0}, {2, 0}, {0, -1}, {0, 10}, {1, Integer.MIN_VALUE}, {Integer.MAX_VALUE, 5}};
        for (int[] w : wrong) {
            Due.is("batman(" + w[0] + ", " + w[1] + ")", x.batman(w[0], w[1]), -1);
        }
        for (int i = 0; i < 12; i++) {
            Due.is("batman " + i, x.batman(1 - i % 2, 9 - i % 10), i);
            Due.is("look(1)", x.look(1), i + 1);
        }
        Due.is("the thirteenth", x.batman(0, 0), -1);
        for (int i = 0; i < 12; i++) {
            int[] due = {1 - i % 2, 9 - i % 10, 0, 0, -1};
            for (int what = 0; what < due.length; what++) {
                Due.is("who(" + i + ", " + what + ")", x.who(i, what), due[what]);
            }
        }
    }

    private static SlipperTruce some() {
        SlipperTruce x = new SlipperTruce();
        x.officer(0, 5);
        x.officer(1, 3);
        x.batman(0, 2);
        x.batman(1, 6);
        return x;
    }

    private static void set() {
        SlipperTruce x = some();
        int[] most = {9, 99, 99, 9, 99};
        for (int what = 0; what < 5; what++) {
            for (int v : new int[] {-1, most[what] + 1, Integer.MIN_VALUE, Integer.MAX_VALUE}) {
                Due.is("set(" + what + ", 1, " + v + ")", x.set(what, 1, v), false);
            }
            for (int who : new int[] {-1, 2, 12, Integer.MAX_VALUE, Integer.MIN_VALUE}) {
                Due.is("set(" + what + ", " + who + ", 5)", x.set(what, who, 5), false);
            }
            for (int v : new int[] {0, most[what], 4}) {
                Due.is("set(" + what + ", 1, " + v + ")", x.set(what, 1, v), true);
                Due.is("as set", what < 3 ? x.of(1, what + 1) : x.who(1, what - 2), v);
            }
        }
        Due.is("of(0, 1) stays", x.of(0, 1), 5);
        Due.is("who(0, 1) stays", x.who(0, 1), 2);
        Due.is("set(5, 77, 98)", x.set(5, 77, 98), true);
        Due.is("set(5, -5, -98)", x.set(5, -5, -98), true);
        Due.is("set(5, 0, -99)", x.set(5, 0, -99), false);
        Due.is("set(5, 0, 99)", x.set(5, 0, 99), false);
        Due.is("look(2)", x.look(2), -98);
        Due.is("set(6, 0, 0)", x.set(6, 0, 0), false);
        Due.is("set(-1, 0, 0)", x.set(-1, 0, 0), false);
        x.days(1);
        Due.is("look(3)", x.look(3), -1);
        x.set(5, 0, 98);
        x.days(1);
        Due.is("won: look(3)", x.look(3), 0);
        Due.is("won: set(5, 0, 0)", x.set(5, 0, 0), false);
        for (int what = 0; what < 5; what++) {
            Due.is("won: set(" + what + ", 0, 7)", x.set(what, 0, 7), true);
        }
        Due.is("won: of(0, 3)", x.of(0, 3), 7);
        Due.is("won: who(0, 2)", x.who(0, 2), 7);
        Due.is("won: officer(0, 0)", x.officer(0, 0), 2);
        Due.is("won: batman(0, 0)", x.batman(0, 0), 2);
    }

    private static void act() {
        SlipperTruce x = some();
        for (int v : new int[] {0, 100, -1, Integer.MIN_VALUE, Integer.MAX_VALUE}) {
            Due.is("act(0, 0, " + v + ")", x.act(0, 0, v), false);
        }
        for (int what = -1; what < 5; what++) {
            Due.is("act(" + what + ", 2, 5)", x.act(what, 2, 5), false);
            Due.is("act(" + what + ", -1, 5)", x.act(what, -1, 5), false);
        }
        Due.is("act(-1, 0, 5)", x.act(-1, 0, 5), false);
        Due.is("act(4, 0, 5)", x.act(4, 0, 5), false);
        Due.is("nothing was done", x.look(12), 0);
        Due.is("act(0, 0, 1)", x.act(0, 0, 1), true);
        Due.is("act(0, 0, 99)", x.act(0, 0, 99), true);
        Due.is("of(0, 3)", x.of(0, 3), 99);
        Due.is("act(2, 0, 0)", x.act(2, 0, 0), false);
        Due.is("act(1, 0, -7)", x.act(1, 0, -7), true);
        Due.is("of(0, 5)", x.of(0, 5), 1);
        Due.is("of(0, 12)", x.of(0, 12), 0);
        Due.is("act(1, 0, 0)", x.act(1, 0, 0), false);
        Due.is("act(0, 0, 5) with a hole", x.act(0, 0, 5), true);
        Due.is("of(0, 3)", x.of(0, 3), 0);
        Due.is("of(0, 5) stays", x.of(0, 5), 1);
        Due.is("act(0, 0, 5) with a hole, with no plan", x.act(0, 0, 5), true);
        Due.is("act(2, 0, 0)", x.act(2, 0, 0), true);
        Due.is("act(2, 0, 0)", x.act(2, 0, 0), false);
        Due.is("of(0, 5)", x.of(0, 5), 0);
        int[][] book = {{0, 0, 0, 1}, {0, 0, 0, 99}, {0, 1, 0, 99}, {0, 1, 0, 0}};
        Due.is("look(6)", x.look(6), book.length);
        DaysTest.bookIs(x, book);
        Due.is("act(3, 0, 0) of new ones", x.act(3, 0, 0), false);
        x.set(4, 0, 1);
        Due.is("act(3, 0, 0)", x.act(3, 0, 0), true);
        Due.is("who(0, 2)", x.who(0, 2), 0);
        Due.is("act(3, 0, 0) again", x.act(3, 0, 0), false);
        won(some());
    }

    private static void won(SlipperTruce x) {
        x.set(5, 0, 95);
        x.set(4, 0, 5);
        x.act(1, 1, 0);
        x.days(1);
        Due.is("won: look(3)", x.look(3), 0);
        Due.is("won: march", x.act(0, 0, 5), false);
        Due.is("won: hole", x.act(1, 0, 0), false);
        Due.is("won: sole", x.act(2, 1, 0), false);
        Due.is("won: new", x.act(3, 0, 0), false);
        Due.is("won: of(0, 12)", x.of(0, 12), 1);
        Due.is("won: of(1, 12)", x.of(1, 12), 0);
    }

    private static void of() {
        SlipperTruce x = some();
        x.officer(0, 7);
        x.officer(0, 8);
        for (int who : new int[] {-1, 4, 12, Integer.MIN_VALUE, Integer.MAX_VALUE}) {
            Due.is("of(" + who + ", 0)", x.of(who, 0), -2);
        }
        Due.is("of(0, 13)", x.of(0, 13), -2);
        Due.is("of(0, -1)", x.of(0, -1), -2);
        Due.told(x, 2, "officer 0 batman 1;officer 1 batman 0;officer 2 batman 1;", 3);
        Due.told(x, 3, "officer 0 needs 2;officer 0 needs 3;officer 0 needs 2;officer 2 needs 0;", 4);
        Due.is("of(0, 7)", x.of(0, 7), 1);
        Due.is("of(1, 7)", x.of(1, 7), 0);
        Due.is("of(3, 7)", x.of(3, 7), -1);
        Due.is("of(0, 8)", x.of(0, 8), 12);
        Due.is("of(2, 8)", x.of(2, 8), 1);
        Due.is("of(1, 8)", x.of(1, 8), 0);
        x.set(4, 1, 33);
        Due.is("of(0, 9)", x.of(0, 9), 5);
        Due.is("of(0, 10)", x.of(0, 10), 40);
        Due.is("of(0, 11)", x.of(0, 11), 273);
        Due.is("of(3, 10)", x.of(3, 10), 10);
        Due.is("of(3, 11)", x.of(3, 11), 0);
        x.set(1, 0, 0);
        Due.is("of(0, 9) of one who has not slept", x.of(0, 9), 5);
        x.set(2, 2, 10);
        x.set(2, 3, 9);
        Due.is("of(0, 12)", x.of(0, 12), 0);
        x.set(2, 3, 10);
        Due.is("of(0, 12)", x.of(0, 12), 1);
        Due.is("of(2, 12)", x.of(2, 12), 0);
        x.set(2, 0, 99);
        Due.is("of(2, 12)", x.of(2, 12), 1);
        Due.is("of(0, 12) of one come on to 99", x.of(0, 12), 1);
    }

    private static void who() {
        SlipperTruce x = some();
        x.officer(0, 7);
        for (int who : new int[] {-1, 2, 12, Integer.MIN_VALUE, Integer.MAX_VALUE}) {
            Due.is("who(" + who + ", 0)", x.who(who, 0), -1);
        }
        Due.is("who(0, 4)", x.who(0, 4), -1);
        Due.is("who(0, -1)", x.who(0, -1), -1);
        Due.is("who(0, 3)", x.who(0, 3), 0);
        Due.told(x, 2, "officer 2 batman 1;officer 1 batman 0;officer 0 batman 1;", 3);
        Due.is("who(1, 3)", x.who(1, 3), 5);
        Due.is("who(0, 3)", x.who(0, 3), 2);
        x.batman(1, 1);
        Due.told(x, 2, "officer 0 batman 1;officer 0 batman 2;", 2);
        Due.is("who(1, 3)", x.who(1, 3), 0);
        Due.is("who(2, 3)", x.who(2, 3), 1);
        Due.is("who(0, 3)", x.who(0, 3), 0);
        Due.is("of(0, 7)", x.of(0, 7), 2);
    }

    private static void look() {
        SlipperTruce x = some();
        for (int what : new int[] {-1, 13, Integer.MIN_VALUE, Integer.MAX_VALUE}) {
            Due.is("look(" + what + ")", x.look(what), -100000);
        }
        Due.told(x, 0, "presses 1;rests 2;reads 1000;", 3);
        Due.told(x, 1, "on 5 truce;on 6 truce;", 2);
        Due.told(x, 2, "officer 0 batman 1;", 1);
        x.officer(0, 1);
        Due.told(x, 3, "officer 0 needs 2;officer 2 needs 0;officer 2 needs 0;officer 2 needs 0;", 4);
        x.state(9);
        x.days(2);
        int[] due = {3, 2, 2, -1, 1, 2, 1, 0, 3, 2, 1, 4, 2};
        due[7] = (9 * 1664525 + 1013904223) * 1664525 + 1013904223;
        for (int i = 0; i < due.length; i++) {
            Due.is("look(" + i + ")", x.look(i), due[i]);
        }
    }
}
