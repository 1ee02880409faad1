/** Promises 38, 39: what is undone, what forgets it, and THE IMAGE. */
public final class BackTest {
    public static void main(String[] args) {
        aDayGoesBack();
        sixAreKept();
        whatForgets();
        whatDoesNotForget();
        lawStays();
        image();
        imageAndUndo();
        imageKeepsTheBook();
        Due.close("BackTest");
    }

    private static SlipperTruce some() {
        SlipperTruce x = new SlipperTruce();
        x.officer(0, 5);
        x.officer(1, 3);
        x.officer(0, 7);
        x.batman(1, 6);
        x.batman(0, 2);
        Due.tell(x, 2, "officer 0 batman 0;officer 1 batman 1;");
        return x;
    }

    private static void same(String what, String got, String due) {
        Due.is(what, got.equals(due), true);
    }

    /** A war that is won on its sixth DAY at the latest, so many DAYS on. */
    private static SlipperTruce daysOn(int days) {
        SlipperTruce x = some();
        Due.tell(x, 0, "reads 700;");
        Due.tell(x, 1, "on 0 march 0 99;on 1 march 0 9;on 2 march 1 99;on 2 hole 2;on 3 new 0;");
        x.state(99);
        x.set(5, 0, 60);
        for (int i = 0; i < days; i++) {
            x.days(1);
        }
        return x;
    }

    private static void aDayGoesBack() {
        String[] was = new String[7];
        for (int i = 0; i < 7; i++) {
            was[i] = Stand.war(daysOn(i));
        }
        Due.is("it is won", daysOn(6).look(3), 0);
        for (int i = 0; i < 6; i++) {
            SlipperTruce x = daysOn(i + 1);
            Due.is("undo()", x.undo(), true);
            same("undone day " + i, Stand.war(x), was[i]);
        }
        SlipperTruce x = daysOn(6);
        for (int i = 0; i < 6; i++) {
            Due.is("undo()", x.undo(), true);
        }
        Due.is("look(7)", x.look(7), 99);
        same("undone six of six", Stand.war(x), was[0]);
        x.days(6);
        x.undo();
        x.undo();
        x.undo();
        same("undone three of six", Stand.war(x), was[3]);
    }

    private static void sixAreKept() {
        SlipperTruce x = some();
        for (int i = 0; i < 10; i++) {
            x.act(0, 0, 1);
        }
        Due.is("look(12)", x.look(12), 6);
        for (int i = 9; i >= 4; i--) {
            Due.is("undo()", x.undo(), true);
            Due.is("of(0, 3)", x.of(0, 3), i);
        }
        Due.is("undo()", x.undo(), false);
        Due.is("of(0, 3)", x.of(0, 3), 4);
        Due.is("look(6)", x.look(6), 4);
        Due.tell(x, 0, "presses 0;");
        x.days(60);
        Due.is("look(12)", x.look(12), 6);
        for (int i = 0; i < 4; i++) {
            x.undo();
        }
        x.act(0, 0, 1);
        x.act(0, 0, 1);
        Due.is("look(12)", x.look(12), 4);
        for (int i = 0; i < 4; i++) {
            Due.is("undo()", x.undo(), true);
        }
        Due.is("undo()", x.undo(), false);
        Due.is("look(5)", x.look(5), 54);
    }

    private interface Call {
        void on(SlipperTruce x);
    }

    private static void kept(String what, Call call, int due) {
        SlipperTruce x = some();
        Due.tell(x, 0, "presses 2;rests 3;reads 4;");
        Due.tell(x, 1, "on 9 truce;");
        Due.tell(x, 3, "officer 0 needs 2;");
        x.set(4, 0, 4);
        x.days(2);
        x.act(0, 2, 5);
        Due.is("ahead of " + what, x.look(12), 3);
        call.on(x);
        Due.is("behind " + what, x.look(12), due);
        Due.is("undo() behind " + what, x.undo(), due > 0);
    }

    private static void whatForgets() {
        kept("state(same)", x -> x.state(x.look(7)), 0);
        kept("officer", x -> x.officer(0, 0), 0);
        kept("batman", x -> x.batman(0, 0), 0);
        for (int what = 0; what < 6; what++) {
            int w = what;
            kept("set " + w, x -> x.set(w, 0, 3), 0);
        }
        kept("ORDERS", x -> Due.tell(x, 1, "on 1 truce;"), 0);
        kept("ORDERS of no line", x -> Due.tell(x, 1, ""), 0);
        kept("SERVICE", x -> Due.tell(x, 2, "officer 0 batman 0;"), 0);
        kept("SERVICE of no line", x -> Due.tell(x, 2, ""), 0);
        kept("the image", x -> {
            x.image(true);
            Due.is("taking forgets nothing", x.look(12), 3);
            x.image(false);
        }, 0);
    }

    private static void whatDoesNotForget() {
        kept("THE LAW", x -> Due.tell(x, 0, "presses 9;"), 3);
        kept("NEEDS", x -> Due.tell(x, 3, "officer 2 needs 0;"), 3);
        kept("no such text", x -> Due.tell(x, 4, "on 1 truce;"), 3);
        kept("no such text", x -> Due.tell(x, -1, ""), 3);
        for (int k = 0; k < 4; k++) {
            int which = k;
            kept("a FAULT in " + k, x -> Due.tell(x, which, "?"), 3);
        }
        kept("feed and end", x -> {
            x.feed(1, 2, 3, 4, 5);
            x.end(7);
            x.end(99);
        }, 3);
        kept("refused", x -> {
            x.officer(2, 0);
            x.batman(0, 10);
            x.set(0, 0, 10);
            x.set(9, 0, 1);
            x.set(5, 0, 99);
            x.act(0, 9, 1);
            x.act(2, 0, 0);
            x.act(7, 0, 0);
            x.days(0);
            x.days(61);
            x.image(false);
        }, 3);
        kept("what is told for thought", x -> {
            x.guess(1234, 1, 1);
            x.guess(-1, 0, 0);
            x.letter(0, 1);
            x.letter(1, 1);
            x.letter(1, -1);
            x.bit(1);
            x.bit(-1);
            x.queen(1, 1);
            x.queen(-1, 0);
            x.corner(1, 1);
            x.corner(-100, 0);
        }, 3);
        kept("what is asked", x -> {
            Stand.war(x);
            Stand.thoughts(x);
            x.fault(0);
            x.boots(3, 1, 1);
        }, 3);
        kept("the taking of THE IMAGE", x -> x.image(true), 3);
    }

    private static void lawStays() {
        SlipperTruce x = some();
        x.days(1);
        x.days(1);
        Due.told(x, 0, "presses 20;", 1);
        Due.told(x, 3, "officer 0 needs 2;", 1);
        x.guess(0, 0, 0);
        Due.is("undo()", x.undo(), true);
        Due.is("THE LAW stays", x.of(0, 9), 20);
        Due.is("NEEDS stay", x.of(0, 8), 4);
        Due.is("WORD stays", x.words(0), 625);
        Due.is("THE LINE", x.look(2), 9);
        x.days(1);
        Due.is("THE LINE, by the new law", x.look(2), 9 + 20 - 20 + 19);
    }

    private static void tellThoughts(SlipperTruce x, int salt) {
        x.guess(1123, salt % 3, 1);
        x.letter(0, 5 + salt);
        x.letter(0, 7);
        x.letter(1, 3 + salt);
        x.bit(salt % 2);
        x.bit(1);
        x.bit(1);
        x.queen(salt % 5, 2);
        x.corner(-20, -20 - salt);
        x.corner(20, 3 * salt);
        x.corner(0, 20);
    }

    private static void image() {
        SlipperTruce x = some();
        Due.is("image(false)", x.image(false), false);
        Due.tell(x, 0, "presses skill*2 when sleep>30;reads 300;");
        Due.tell(x, 1, "on 1 march 0 99;on 3 hole 2;");
        Due.tell(x, 3, "officer 2 needs 0;");
        tellThoughts(x, 1);
        x.state(4);
        x.set(4, 1, 8);
        x.days(2);
        String war = Stand.war(x);
        String thoughts = Stand.thoughts(x);
        Due.is("image(true)", x.image(true), true);
        for (int turn = 0; turn < 2; turn++) {
            x.days(9);
            x.officer(1, 9);
            x.batman(0, 9);
            x.act(1, 2, 0);
            x.state(turn);
            x.set(0, 0, turn);
            Due.tell(x, 0, "presses 1;");
            Due.tell(x, 1, "on 7 truce;on 70 march 3 1;");
            Due.tell(x, 2, "officer 3 batman 1;");
            Due.tell(x, 3, "officer 1 needs 3;officer 0 needs 2;");
            tellThoughts(x, 2 + turn);
            x.guess(turn - 1, 0, 0);
            x.letter(1, -1);
            x.set(5, 0, 97);
            x.days(4);
            Due.is("it has gone on", x.look(5), 2 + 9 + 4);
            Due.is("image(false)", x.image(false), true);
            same("gone back: the war", Stand.war(x), war);
            same("gone back: what is told for thought", Stand.thoughts(x), thoughts);
            Due.is("look(12)", x.look(12), 0);
        }
        Due.is("the next guess", x.guess(0, 0, 0), 2);
        Due.is("the next letter", x.letter(0, 0), 3);
        Due.is("the next letter of the key", x.letter(1, 0), 2);
        Due.is("the next bit", x.bit(0), 4);
        Due.is("the queen told already", x.queen(1, 2), -1);
        Due.is("the next queen", x.queen(6, 2), 2);
        Due.is("the next corner", x.corner(0, 0), 4);
        Due.is("the next officer", x.officer(0, 0), 3);
    }

    private static void imageAndUndo() {
        SlipperTruce x = some();
        Due.tell(x, 0, "?");
        x.act(0, 0, 5);
        x.image(true);
        Due.is("look(12)", x.look(12), 1);
        Due.is("undo() behind the taking", x.undo(), true);
        Due.is("of(0, 3)", x.of(0, 3), 0);
        x.feed(1, 2, 3, 4, 5);
        x.end(3);
        Due.is("image(false)", x.image(false), true);
        Due.is("of(0, 3)", x.of(0, 3), 5);
        Due.is("undo()", x.undo(), false);
        Due.is("the TAPE stays", x.end(4), false);
        Due.is("the TAPE stays", x.end(3), true);
        Due.is("fault(0) stays", x.fault(0), 1);
        Due.is("fault(1) stays", x.fault(1), 0);
        x.act(0, 0, 5);
        x.image(true);
        x.act(0, 0, 5);
        Due.is("image(false): the latest one", x.image(false), true);
        Due.is("of(0, 3)", x.of(0, 3), 10);
        x.act(0, 0, 1);
        Due.is("look(12)", x.look(12), 1);
        x.undo();
        Due.is("of(0, 3)", x.of(0, 3), 10);
    }

    private static void imageKeepsTheBook() {
        SlipperTruce x = some();
        x.act(0, 0, 5);
        x.act(0, 0, 6);
        x.image(true);
        x.undo();
        x.undo();
        x.act(1, 1, 0);
        x.act(0, 1, 1);
        x.act(0, 2, 77);
        x.act(0, 2, 1);
        x.image(false);
        DaysTest.bookIs(x, new int[][] {{0, 0, 0, 5}, {0, 0, 0, 11}});
    }
}
