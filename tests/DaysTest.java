/** Promises 7, 14, 15, 16: days as they go, what THE BOOK tells of them, and days in thought. */
public final class DaysTest {
    public static void main(String[] args) {
        bounds();
        pressing();
        sleepTells();
        carriedOut();
        carriedOutToTheEnd();
        downwards();
        ordersGoLineByLine();
        truce();
        evening();
        sharedBatman();
        whatIsAskedWhen();
        theDraw();
        thought();
        peace();
        fullBook();
        Due.close("DaysTest");
    }

    static void bookIs(SlipperTruce x, int[][] lines) {
        Due.is("lines of the book", x.look(6), lines.length);
        for (int i = 0; i < lines.length; i++) {
            for (int what = 0; what < 4; what++) {
                Due.is("book(" + i + ", " + what + ")", x.book(i, what), lines[i][what]);
            }
        }
        Due.is("book behind its end", x.book(lines.length, 0), -1);
    }

    private static void bounds() {
        SlipperTruce x = new SlipperTruce();
        for (int n : new int[] {0, -1, 61, Integer.MIN_VALUE, Integer.MAX_VALUE}) {
            Due.is("days(" + n + ")", x.days(n), -1);
            Due.is("goes(" + n + ", 0)", x.goes(n, 0), -1000);
        }
        Due.is("goes(1, -1)", x.goes(1, -1), -1000);
        Due.is("goes(1, 4)", x.goes(1, 4), -1000);
        Due.is("look(5)", x.look(5), 0);
        for (int i = 0; i < 166; i++) {
            Due.is("days(60)", x.days(60), 0);
        }
        Due.is("look(5)", x.look(5), 9960);
        Due.is("days(40)", x.days(40), -1);
        Due.is("look(5)", x.look(5), 9960);
        Due.is("days(39)", x.days(39), 0);
        Due.is("look(5)", x.look(5), 9999);
        Due.is("days(1)", x.days(1), -1);
        Due.is("look(5)", x.look(5), 9999);
        Due.is("undo()", x.undo(), true);
        Due.is("look(5)", x.look(5), 9998);
        Due.is("days(1)", x.days(1), 0);
    }

    private static SlipperTruce war(int... skills) {
        SlipperTruce x = new SlipperTruce();
        for (int i = 0; i < skills.length; i++) {
            x.officer(skills[i] < 0 ? 1 : 0, Math.abs(skills[i]));
        }
        return x;
    }

    private static void pressing() {
        SlipperTruce x = war(5, -3, 1);
        Due.is("days(1)", x.days(1), 0);
        Due.is("look(2)", x.look(2), 3);
        Due.is("SLEEP", x.of(1, 2), 40);
        Due.is("days(1)", x.days(1), 0);
        Due.is("look(2): each one less", x.look(2), 3 + 4 - 2 + 0);
        Due.is("SLEEP", x.of(1, 2), 30);
        Due.is("days(3)", x.days(3), 0);
        Due.is("look(2)", x.look(2), 5 + (3 + 2 + 1) - 1);
        Due.is("SLEEP", x.of(1, 2), 0);
        Due.is("look(5)", x.look(5), 5);
    }

    private static void sleepTells() {
        int[] less = {5, 5, 4, 4, 1, 1, 0, 0, 0, 0};
        int[] sleep = {0, 0, 10, 1, 40, 31, 41, 49, 50, 99};
        for (int i = 0; i < sleep.length; i++) {
            SlipperTruce x = war(9);
            x.set(1, 0, sleep[i]);
            x.days(1);
            Due.is("pressed with SLEEP " + sleep[i], x.look(2), 9 - less[i]);
        }
        SlipperTruce x = war(4);
        x.set(1, 0, 0);
        x.days(1);
        Due.is("none at least", x.look(2), 0);
    }

    private static void carriedOut() {
        SlipperTruce x = war(2, -9, 1);
        x.set(2, 0, 99);
        x.set(2, 1, 98);
        x.set(2, 2, 99);
        x.set(1, 0, 0);
        Due.is("days(1)", x.days(1), 2);
        Due.is("look(2): 10 behind what sleep takes", x.look(2), 10 - 9 + 11);
        Due.is("DONE", x.of(0, 6), 1);
        Due.is("PLAN", x.of(0, 3), 0);
        Due.is("DONE", x.of(1, 6), 0);
        Due.is("PLAN", x.of(1, 3), 98);
        bookIs(x, new int[][] {{0, 3, 0, 10}, {0, 3, 2, 11}});
        x.set(2, 0, 99);
        x.act(1, 0, 0);
        Due.is("days(3)", x.days(3), 1);
        Due.is("DONE with a hole", x.of(0, 6), 2);
    }

    private static void carriedOutToTheEnd() {
        SlipperTruce x = war(5, -5, 9);
        Due.tell(x, 2, "officer 0 batman 0;");
        x.set(5, 0, 84);
        x.set(2, 0, 99);
        x.set(2, 1, 99);
        x.set(2, 2, 99);
        Due.is("days(4)", x.days(4), 1);
        bookIs(x, new int[][] {{0, 3, 0, 15}, {0, 5, 0, 0}});
        Due.is("look(2)", x.look(2), 99);
        Due.is("look(3)", x.look(3), 0);
        Due.is("look(5)", x.look(5), 4);
        Due.is("PLAN of who stood behind", x.of(1, 3), 99);
        Due.is("SLEEP: no evening", x.of(0, 2), 50);
        x.undo();
        Due.is("look(3): that day changed nothing", x.look(3), 0);
        x.undo();
        x.undo();
        x.undo();
        Due.is("look(3)", x.look(3), -1);
        Due.is("look(2)", x.look(2), 84);
        Due.is("look(6)", x.look(6), 0);
    }

    private static void downwards() {
        SlipperTruce x = war(1, -9);
        x.set(5, 0, -91);
        Due.is("days(1)", x.days(1), 0);
        Due.is("look(2)", x.look(2), -99);
        Due.is("look(3)", x.look(3), 1);
        bookIs(x, new int[][] {{0, 5, 1, 1}});
        SlipperTruce y = war(9, -9);
        y.set(5, 0, 97);
        y.days(1);
        Due.is("look(2): 99 at most", y.look(2), 99);
        Due.is("look(3)", y.look(3), 0);
        SlipperTruce z = war(9, -9);
        z.set(5, 0, -98);
        z.days(1);
        Due.is("look(2)", z.look(2), -98);
        Due.is("look(3)", z.look(3), -1);
        Due.is("SLEEP", z.of(0, 2), 40);
    }

    private static void ordersGoLineByLine() {
        SlipperTruce x = war(0, 0, 0);
        x.batman(1, 0);
        x.set(4, 0, 9);
        Due.told(x, 3, "officer 0 needs 1;", 1);
        Due.told(x, 1, "on 0 march 0 5;on 0 march 1 10;on 0 march 0 99;on 1 march 0 7;on 0 hole 0;on 0 march 0 1;"
                + "on 0 sole 0;on 0 march 0 3;on 0 new 0;on 2 hole 2;on 0 hole 2;on 0 march 2 9;", 12);
        Due.is("days(1)", x.days(1), 0);
        bookIs(x, new int[][] {{0, 2, 0, 0}, {0, 0, 1, 10}, {0, 0, 0, 99}, {0, 1, 0, 99}, {0, 0, 0, 3}, {0, 1, 2, 0}});
        Due.is("of(0, 5)", x.of(0, 5), 0);
        Due.is("of(2, 5)", x.of(2, 5), 1);
        Due.is("who(0, 2)", x.who(0, 2), 0);
        Due.is("days(1)", x.days(1), 0);
        Due.is("of(0, 3)", x.of(0, 3), 10);
        Due.is("book(6, 0)", x.book(6, 0), 1);
        SlipperTruce y = war(0);
        Due.told(y, 1, "on 0 march 0 99;on 2 march 0 98;on 3 march 0 1;", 3);
        Due.is("carried out on the day itself", y.days(5), 2);
        Due.is("DONE", y.of(0, 6), 2);
    }

    private static void truce() {
        SlipperTruce x = war(9, -2);
        x.batman(1, 4);
        Due.told(x, 2, "officer 0 batman 0;", 1);
        Due.told(x, 1, "on 1 truce;on 1 march 0 99;on 3 march 1 1;on 3 truce;", 4);
        x.days(1);
        Due.is("look(2)", x.look(2), 7);
        Due.is("days(1)", x.days(1), 0);
        Due.is("look(2)", x.look(2), 7);
        Due.is("PLAN stays", x.of(0, 3), 99);
        Due.is("SLEEP: there is an evening", x.of(1, 2), 30);
        Due.is("WEAR", x.who(0, 2), 2);
        Due.is("days(1)", x.days(1), 1);
        int line = x.look(2);
        x.days(1);
        Due.is("look(2) of a truce behind a march", x.look(2), line);
        Due.is("PLAN", x.of(1, 3), 1);
    }

    private static void evening() {
        SlipperTruce x = war(0, 0);
        x.batman(1, 9);
        Due.told(x, 2, "officer 1 batman 0;", 1);
        x.set(1, 0, 5);
        x.set(1, 1, 60);
        x.set(4, 0, 98);
        x.state(1);
        x.days(1);
        Due.is("SLEEP: none at least", x.of(0, 2), 0);
        Due.is("SLEEP: 99 at most", x.of(1, 2), 99);
        Due.is("WEAR", x.who(0, 2), 99);
        x.days(1);
        Due.is("WEAR: 99 at most", x.who(0, 2), 99);
        SlipperTruce y = war(0);
        y.batman(1, 0);
        Due.told(y, 2, "officer 0 batman 0;", 1);
        Due.told(y, 0, "rests sleep;reads 0;", 2);
        y.set(1, 0, 30);
        y.days(1);
        Due.is("SLEEP: rests is asked behind the 10 less", y.of(0, 2), 40);
        y.set(1, 0, 3);
        y.days(1);
        Due.is("SLEEP", y.of(0, 2), 0);
        Due.is("STATE: nothing above 0, no DRAW", y.look(7), 0);
    }

    private static void sharedBatman() {
        SlipperTruce x = war(0, 0);
        x.batman(1, 0);
        Due.told(x, 2, "officer 1 batman 0;officer 0 batman 0;", 2);
        Due.told(x, 0, "rests wear;reads 1000 when wear=2;reads 0;", 3);
        x.days(1);
        Due.is("SLEEP of the first", x.of(0, 2), 40);
        Due.is("SLEEP of the second", x.of(1, 2), 41);
        Due.is("WEAR", x.who(0, 2), 2);
        Due.is("READ: the WEAR is told with it", x.look(4), 2);
        bookIs(x, new int[][] {{0, 4, 1, 41}});
        Due.is("STATE: one DRAW", x.look(7), 1013904223);
    }

    private static void whatIsAskedWhen() {
        SlipperTruce x = war(0, 0);
        Due.told(x, 0, "presses 7 when plan=99 and done=0;presses 3 when line=17 and day=0;presses 1;", 3);
        x.set(2, 0, 99);
        Due.is("days(1)", x.days(1), 1);
        Due.is("look(2): asked before it is carried out, and with the line of then", x.look(2), 20);
        x.set(1, 0, 50);
        x.set(1, 1, 50);
        x.days(1);
        Due.is("look(2)", x.look(2), 22);
        SlipperTruce y = war(0);
        y.batman(1, 0);
        Due.told(y, 2, "officer 0 batman 0;", 1);
        Due.told(y, 0, "rests 20 when day=0;rests 30;reads sleep*100 when sleep=60;", 3);
        y.state(3);
        y.days(1);
        Due.is("SLEEP", y.of(0, 2), 60);
        Due.is("READ: with the rest in it", y.of(0, 4), 1);
        y.days(1);
        Due.is("SLEEP", y.of(0, 2), 80);
    }

    private static void theDraw() {
        int state = 12345;
        SlipperTruce x = war(0);
        x.batman(1, 0);
        Due.told(x, 2, "officer 0 batman 0;", 1);
        Due.told(x, 0, "rests 10;reads 300;", 2);
        x.state(state);
        boolean read = false;
        int lines = 0;
        for (int i = 0; i < 60; i++) {
            x.days(1);
            state = state * 1664525 + 1013904223;
            if ((state >>> 8) % 1000 < 300 && !read) {
                read = true;
                lines++;
            }
            Due.is("STATE, drawn of one who is read, too", x.look(7), state);
            Due.is("READ", x.of(0, 4), read ? 1 : 0);
            Due.is("look(6)", x.look(6), lines);
            if (i % 20 == 19) {
                x.act(0, 0, 5);
                lines++;
                Due.is("given up", x.book(lines - 1, 1), read ? 1 : 0);
                read = false;
            }
        }
        Due.is("some were read", lines > 4, true);
    }

    private static void thought() {
        SlipperTruce x = war(5, -3, 1);
        x.batman(1, 5);
        x.batman(0, 5);
        Due.told(x, 2, "officer 0 batman 0;officer 1 batman 1;officer 2 batman 0;", 3);
        Due.told(x, 0, "rests 10;reads 500 when side=0 and sleep<60;reads 499;", 3);
        x.set(2, 0, 99);
        x.set(1, 2, 60);
        Due.told(x, 1, "on 0 march 2 99;on 1 march 0 99;on 1 march 1 99;", 3);
        Due.is("goes(1, 0)", x.goes(1, 0), 15 - 3 + 11);
        Due.is("goes(1, 1)", x.goes(1, 1), 2);
        Due.is("goes(1, 2)", x.goes(1, 2), 1);
        Due.is("goes(1, 3)", x.goes(1, 3), 160);
        Due.is("goes(2, 0): the READ one gives up, the other one does not", x.goes(2, 0), 23 + 5 - 13 + 1);
        Due.is("goes(2, 1)", x.goes(2, 1), 3);
        Due.is("goes(2, 2)", x.goes(2, 2), 1);
        Due.is("goes(60, 0)", x.goes(60, 0), 99);
        Due.is("nothing stays: look(2)", x.look(2), 0);
        Due.is("nothing stays: look(4)", x.look(4), 0);
        Due.is("nothing stays: look(5)", x.look(5), 0);
        Due.is("nothing stays: look(6)", x.look(6), 0);
        Due.is("nothing stays: look(7)", x.look(7), 0);
        Due.is("nothing stays: look(12)", x.look(12), 0);
        Due.is("nothing stays: of(0, 3)", x.of(0, 3), 99);
        Due.is("nothing stays: who(0, 2)", x.who(0, 2), 0);
        // from 16 on 3 more each DAY: the 27th begins at 94, and the first OFFICER alone brings it to 99
        Due.is("peace()", x.peace(), 2 + 27);
    }

    private static void peace() {
        SlipperTruce x = war();
        Due.is("peace()", x.peace(), -1);
        SlipperTruce y = war(1);
        y.batman(1, 0);
        Due.told(y, 2, "officer 0 batman 0;", 1);
        y.set(5, 0, 39);
        Due.is("peace() behind just 60", y.peace(), 60);
        y.set(5, 0, 38);
        Due.is("peace() behind 61", y.peace(), -1);
        y.set(5, 0, 98);
        Due.is("peace()", y.peace(), 1);
        Due.is("goes(60, 0)", y.goes(60, 0), 99);
        Due.is("goes(60, 3): no evening when it is won", y.goes(60, 3), 50);
        y.days(1);
        Due.is("peace()", y.peace(), 0);
        Due.is("goes(5, 0)", y.goes(5, 0), 99);
    }

    private static void fullBook() {
        SlipperTruce x = war(0, 0);
        for (int i = 0; i < 149; i++) {
            x.act(0, 0, 1);
        }
        Due.is("look(6)", x.look(6), 149);
        x.set(2, 1, 99);
        x.set(2, 0, 99);
        Due.is("days(1)", x.days(1), 2);
        Due.is("look(6)", x.look(6), 150);
        Due.is("book(149, 1)", x.book(149, 1), 3);
        Due.is("book(149, 2)", x.book(149, 2), 0);
        Due.is("book(150, 0)", x.book(150, 0), -1);
        Due.is("act(0, 0, 7)", x.act(0, 0, 7), true);
        Due.is("of(0, 3)", x.of(0, 3), 7);
        Due.is("look(6)", x.look(6), 150);
        x.undo();
        x.undo();
        Due.is("look(6)", x.look(6), 149);
        Due.is("book(149, 1)", x.book(149, 1), -1);
        x.act(1, 0, 0);
        x.act(0, 0, 7);
        Due.is("book(149, 1)", x.book(149, 1), 1);
        Due.is("book(149, 3)", x.book(149, 3), 99);
        Due.is("book(-1, 0)", x.book(-1, 0), -1);
        Due.is("book(0, -1)", x.book(0, -1), -1);
        Due.is("book(0, 4)", x.book(0, 4), -1);
        Due.is("book(2147483647, 0)", x.book(Integer.MAX_VALUE, 0), -1);
        Due.is("book(0, 0)", x.book(0, 0), 0);
    }
}
