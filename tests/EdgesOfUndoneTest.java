import java.util.function.Consumer;

/**
 * UNDO and THE IMAGE at the end of the document's part 4, and promises 38 and 39:
 * each sentence that tells of an edge has a test of its own, which begins with it.
 */
public final class EdgesOfUndoneTest {
    public static void main(String[] args) {
        latestGoesBack();
        stateAndBookToo();
        sixAreKept();
        whateverElseForgets();
        butLawAndNeeds();
        thoughtsForgetNone();
        whatForgetsNone();
        nothingToUndo();
        butTheTape();
        butWhatCanBeUndone();
        asItWasWhenTaken();
        moreThanOnce();
        noImage();
        Due.close("EdgesOfUndoneTest");
    }

    /** OFFICERS 0 and 2 of SIDE 0, 1 of SIDE 1; BATMAN 0 serves 0, 1 serves 1; WEAR 9 of each. */
    private static SlipperTruce some() {
        SlipperTruce x = new SlipperTruce();
        x.officer(0, 5);
        x.officer(1, 3);
        x.officer(0, 7);
        x.batman(1, 6);
        x.batman(0, 2);
        x.set(4, 0, 9);
        x.set(4, 1, 9);
        Due.tell(x, 2, "officer 0 batman 0;officer 1 batman 1;");
        return x;
    }

    /** With two steps that can be undone, and a FAULT. */
    private static SlipperTruce twoSteps() {
        SlipperTruce x = some();
        Due.tell(x, 0, "presses 2;?");
        x.act(0, 0, 30);
        x.days(1);
        Due.is("look(12)", x.look(12), 2);
        return x;
    }

    // ---- UNDO ----

    private static void latestGoesBack() {
        Due.says("UNDO: the latest DAY, MARCH, HOLE, SOLE, NEW slippers by hand not undone yet goes back");
        for (int latest = 0; latest < 6; latest++) {
            SlipperTruce x = some();
            for (int i = 0; i < latest; i++) {
                step(x, i);
            }
            String was = Stand.war(x);
            step(x, latest);
            Due.is("look(12)", x.look(12), latest + 1);
            Due.is("step " + latest + " did something", Stand.war(x).equals(was), false);
            Due.is("undo()", x.undo(), true);
            Due.same("step " + latest + " undone", Stand.war(x), was);
            for (int i = latest; i > 0; i--) {
                Due.is("look(12)", x.look(12), i);
                Due.is("undo()", x.undo(), true);
            }
            Due.same("all undone", Stand.war(x), Stand.war(some()));
            Due.is("undo()", x.undo(), false);
        }
        SlipperTruce days = some();
        days.days(3);
        Due.is("each DAY by itself: look(12)", days.look(12), 3);
        days.undo();
        Due.is("look(5)", days.look(5), 2);
        days.days(2);
        Due.is("look(12)", days.look(12), 4);
        Due.is("look(5)", days.look(5), 4);
        SlipperTruce could = some();
        Due.told(could, 3, "officer 0 needs 2;", 1);
        could.act(0, 0, 5);
        Due.is("a MARCH that could not: look(12)", could.look(12), 1);
        could.undo();
        Due.is("look(6)", could.look(6), 0);
    }

    /** Each step of the six does something behind those ahead of it. */
    private static void step(SlipperTruce x, int i) {
        int[][] acts = {{0, 0, 30}, {1, 0, 0}, {0, 0, 30}, {2, 0, 0}, {3, 0, 0}};
        if (i < acts.length) {
            Due.is("act", x.act(acts[i][0], acts[i][1], acts[i][2]), true);
        } else {
            x.days(1);
        }
    }

    private static void stateAndBookToo() {
        Due.says("goes back (STATE, THE BOOK, too)");
        SlipperTruce x = some();
        x.state(99);
        x.act(0, 0, 5);
        x.days(2);
        int behind = x.look(7);
        Due.is("STATE has gone on", behind != 99, true);
        x.act(0, 0, 7);
        int lines = x.look(6);
        x.undo();
        Due.is("look(6)", x.look(6), lines - 1);
        Due.is("book of the line undone", x.book(lines - 1, 0), -1);
        Due.is("STATE stays", x.look(7), behind);
        x.undo();
        x.undo();
        Due.is("STATE", x.look(7), 99);
        Due.is("look(6)", x.look(6), 1);
        x.undo();
        Due.is("look(6)", x.look(6), 0);
        Due.is("book(0, 0)", x.book(0, 0), -1);
        x.days(2);
        Due.is("STATE goes on alike", x.look(7), behind);
    }

    private static void sixAreKept() {
        Due.says("6 are kept");
        for (int steps = 5; steps <= 8; steps++) {
            SlipperTruce x = some();
            for (int i = 0; i < steps; i++) {
                x.act(0, 0, 1);
                Due.is("look(12)", x.look(12), Math.min(6, i + 1));
            }
            int kept = Math.min(6, steps);
            for (int i = 1; i <= kept; i++) {
                Due.is("undo() of " + steps, x.undo(), true);
                Due.is("PLAN", x.of(0, 3), steps - i);
                Due.is("look(12)", x.look(12), kept - i);
            }
            Due.is("the next of " + steps, x.undo(), false);
            Due.is("PLAN", x.of(0, 3), steps - kept);
        }
        SlipperTruce x = some();
        Due.told(x, 0, "presses 0;", 1);
        x.days(60);
        Due.is("look(12) behind 60 DAYS", x.look(12), 6);
        for (int i = 0; i < 3; i++) {
            x.undo();
        }
        for (int i = 0; i < 4; i++) {
            x.act(0, 0, 1);
        }
        Due.is("look(12): three and four more", x.look(12), 6);
        for (int i = 0; i < 6; i++) {
            Due.is("undo()", x.undo(), true);
        }
        Due.is("undo()", x.undo(), false);
        Due.is("look(5)", x.look(5), 55);
        Due.is("PLAN", x.of(0, 3), 0);
    }

    /** Behind a call so many of two steps can be undone. */
    private static void left(String what, int due, Consumer<SlipperTruce> call) {
        SlipperTruce x = twoSteps();
        call.accept(x);
        Due.is("look(12) behind " + what, x.look(12), due);
        Due.is("undo() behind " + what, x.undo(), due > 0);
        Due.is("look(12) behind " + what + " and undo()", x.look(12), Math.max(0, due - 1));
    }

    private static void whateverElseForgets() {
        Due.says("whatever else is told but THE LAW, NEEDS and what is told for thought (WORD, MESSAGE, ANEW, QUEENS, "
                + "WITHIN)");
        left("state", 0, x -> x.state(5));
        left("state of the same", 0, x -> x.state(x.look(7)));
        left("officer", 0, x -> x.officer(1, 9));
        left("batman", 0, x -> x.batman(1, 9));
        for (int what = 0; what < 6; what++) {
            int w = what;
            left("set " + w, 0, x -> x.set(w, 1, 3));
            left("set " + w + " of the same", 0, x -> x.set(w, 1, w == 5 ? x.look(2) : w < 3 ? x.of(1, w + 1)
                    : x.who(1, w - 2)));
        }
        left("ORDERS", 0, x -> Due.tell(x, 1, "on 9 truce;"));
        left("ORDERS of no line", 0, x -> Due.tell(x, 1, ""));
        left("SERVICE", 0, x -> Due.tell(x, 2, "officer 2 batman 0;"));
        left("SERVICE of no line", 0, x -> Due.tell(x, 2, " "));
        left("going back to THE IMAGE", 0, x -> {
            x.image(true);
            x.image(false);
        });
    }

    private static void butLawAndNeeds() {
        Due.says("whatever else is told but THE LAW, NEEDS and what is told for thought");
        left("THE LAW", 2, x -> Due.tell(x, 0, "presses 9;"));
        left("THE LAW of no line", 2, x -> Due.tell(x, 0, ""));
        left("NEEDS", 2, x -> Due.tell(x, 3, "officer 0 needs 2;"));
        left("NEEDS of no line", 2, x -> Due.tell(x, 3, ""));
        SlipperTruce x = twoSteps();
        Due.told(x, 0, "presses 9;", 1);
        Due.told(x, 3, "officer 0 needs 2;", 1);
        x.undo();
        Due.is("THE LAW does not go back", x.of(0, 9), 9);
        Due.is("NEEDS do not go back", x.of(0, 8), 4);
        x.undo();
        Due.is("THE LAW does not go back", x.look(8), 1);
        Due.is("NEEDS do not go back", x.look(11), 1);
    }

    private static void thoughtsForgetNone() {
        Due.says("what is told for thought (WORD, MESSAGE, ANEW, QUEENS, WITHIN)");
        left("guess", 2, x -> x.guess(1234, 1, 1));
        left("guess NONE", 2, x -> x.guess(-1, 0, 0));
        left("letter", 2, x -> x.letter(0, 7));
        left("letter of the key", 2, x -> x.letter(1, 7));
        left("letter NONE", 2, x -> x.letter(0, -1));
        left("letter NONE of the key", 2, x -> x.letter(1, -1));
        left("bit", 2, x -> x.bit(1));
        left("bit NONE", 2, x -> x.bit(-1));
        left("queen", 2, x -> x.queen(1, 2));
        left("queen NONE", 2, x -> x.queen(-1, 0));
        left("corner", 2, x -> x.corner(1, 2));
        left("corner NONE - 99", 2, x -> x.corner(-100, 0));
        SlipperTruce x = twoSteps();
        tellThoughts(x);
        String was = Stand.thoughts(x);
        x.undo();
        x.undo();
        Due.same("what was told does not go back", Stand.thoughts(x), was);
    }

    private static void tellThoughts(SlipperTruce x) {
        x.guess(1123, 1, 2);
        x.letter(0, 5);
        x.letter(0, 7);
        x.letter(1, 3);
        x.bit(0);
        x.bit(1);
        x.bit(1);
        x.queen(2, 0);
        x.corner(-20, -20);
        x.corner(20, -10);
        x.corner(0, 30);
    }

    private static void whatForgetsNone() {
        Due.says("(feed(), end(), what is refused, a text with a FAULT, the taking of THE IMAGE do not) forgets them.");
        left("feed", 2, x -> x.feed(1, 2, 3, 4, 5));
        left("end", 2, x -> {
            x.feed(1, 2, 3, 4, 5);
            x.end(3);
            x.end(99);
        });
        left("an officer refused", 2, x -> x.officer(2, 0));
        left("a batman refused", 2, x -> x.batman(0, 10));
        for (int what = -1; what < 7; what++) {
            int w = what;
            left("set " + w + " refused", 2, x -> x.set(w, 0, 100));
            left("act " + w + " refused", 2, x -> x.act(w, 9, 5));
        }
        left("MARCH refused", 2, x -> x.act(0, 0, 0));
        left("SOLE refused", 2, x -> x.act(2, 0, 0));
        left("days refused", 2, x -> x.days(0));
        left("days refused", 2, x -> x.days(61));
        left("image refused", 2, x -> x.image(false));
        for (int k = 0; k < 4; k++) {
            int which = k;
            left("a FAULT in " + k, 2, x -> Due.tell(x, which, "?"));
        }
        left("no such text", 2, x -> Due.tell(x, 4, ""));
        left("no such text", 2, x -> Due.tell(x, -1, "on 9 truce;"));
        left("the taking of THE IMAGE", 2, x -> x.image(true));
        left("what is asked", 2, x -> {
            Stand.war(x);
            Stand.thoughts(x);
            x.fault(0);
        });
        SlipperTruce twelve = some();
        for (int i = 3; i < 12; i++) {
            twelve.officer(0, 0);
        }
        for (int i = 2; i < 12; i++) {
            twelve.batman(0, 0);
        }
        twelve.days(1);
        Due.is("the thirteenth OFFICER", twelve.officer(0, 0), -1);
        Due.is("look(12) behind him", twelve.look(12), 1);
        Due.is("the thirteenth BATMAN", twelve.batman(0, 0), -1);
        Due.is("look(12) behind him", twelve.look(12), 1);
    }

    private static void nothingToUndo() {
        Due.says("UNDO: true; false if there is nothing.");
        SlipperTruce x = new SlipperTruce();
        Due.is("undo() of a new object", x.undo(), false);
        x = some();
        String was = Stand.war(x);
        Due.is("undo() of what is told", x.undo(), false);
        Due.same("nothing undone", Stand.war(x), was);
        x.act(1, 0, 0);
        Due.is("undo()", x.undo(), true);
        Due.is("undo() again", x.undo(), false);
        Due.same("undone", Stand.war(x), was);
        x.days(1);
        x.state(0);
        Due.is("undo() of what is forgotten", x.undo(), false);
        Due.is("look(5)", x.look(5), 1);
    }

    // ---- THE IMAGE ----

    private static void butTheTape() {
        Due.says("THE IMAGE: all that is and was told but the TAPE, fault() and what can be undone (nothing then)");
        SlipperTruce x = some();
        x.feed(0x20202020, 0x20202020, 0x20202020, 0x20202020, 0x20202020);
        x.image(true);
        Due.is("the TAPE stays behind the taking", x.end(20), true);
        Due.tell(x, 0, "?");
        x.feed(0x3f202020, 0x20202020, 0x20202020, 0x20202020, 0x20202020);
        x.end(7);
        x.image(false);
        Due.is("the TAPE stays", x.end(8), false);
        Due.is("the TAPE stays", x.end(7), true);
        Due.is("fault(0) stays", x.fault(0), 1);
        Due.is("fault(1) stays", x.fault(1), 0);
        x.image(true);
        Due.tell(x, 0, "");
        x.image(false);
        Due.is("fault(0) stays", x.fault(0), 0);
        Due.is("fault(1) stays", x.fault(1), -1);
    }

    private static void butWhatCanBeUndone() {
        Due.says("what can be undone (nothing then)");
        SlipperTruce x = twoSteps();
        x.image(true);
        Due.is("look(12) behind the taking", x.look(12), 2);
        x.image(false);
        Due.is("look(12)", x.look(12), 0);
        Due.is("undo()", x.undo(), false);
        Due.is("look(5)", x.look(5), 1);
        x.days(3);
        x.image(false);
        Due.is("look(12)", x.look(12), 0);
        Due.is("undo()", x.undo(), false);
        x.act(0, 2, 5);
        Due.is("look(12) behind one more", x.look(12), 1);
        Due.is("undo()", x.undo(), true);
        Due.is("PLAN", x.of(2, 3), 0);
    }

    private static void asItWasWhenTaken() {
        Due.says("as it was when it was taken");
        SlipperTruce x = some();
        Due.tell(x, 0, "presses skill*2 when sleep>30;reads 300;");
        Due.tell(x, 1, "on 1 march 0 99;on 3 hole 2;");
        Due.tell(x, 3, "officer 2 needs 0;");
        tellThoughts(x);
        x.state(4);
        x.act(0, 2, 8);
        x.days(2);
        String war = Stand.war(x);
        String thoughts = Stand.thoughts(x);
        x.image(true);
        x.undo();
        x.undo();
        x.officer(1, 9);
        x.batman(0, 9);
        for (int what = 0; what < 6; what++) {
            x.set(what, 1, 8 - what);
        }
        Due.tell(x, 0, "presses 1;");
        Due.tell(x, 1, "on 7 truce;on 70 march 3 1;");
        Due.tell(x, 2, "officer 3 batman 1;officer 3 batman 2;");
        Due.tell(x, 3, "");
        x.guess(-1, 0, 0);
        x.letter(0, -1);
        x.letter(1, 9);
        x.bit(-1);
        x.queen(6, 6);
        x.corner(-100, 0);
        x.corner(9, 9);
        x.act(1, 1, 0);
        x.act(0, 1, 5);
        x.days(30);
        Due.is("it has gone on: look(5)", x.look(5), 30);
        x.image(false);
        Due.same("gone back: the war", Stand.war(x), war);
        Due.same("gone back: what is told for thought", Stand.thoughts(x), thoughts);
        Due.is("the next OFFICER", x.officer(0, 0), 3);
        Due.is("the next BATMAN", x.batman(0, 0), 2);
        Due.is("the next guess", x.guess(0, 0, 0), 2);
        Due.is("the next letter", x.letter(0, 0), 3);
        Due.is("the next letter of the key", x.letter(1, 0), 2);
        Due.is("the next bit", x.bit(0), 4);
        Due.is("the next queen", x.queen(6, 6), 2);
        Due.is("the next corner", x.corner(9, 9), 4);
    }

    private static void moreThanOnce() {
        Due.says("gone back to it may be more than once.");
        SlipperTruce x = twoSteps();
        tellThoughts(x);
        String was = Stand.war(x);
        String thoughts = Stand.thoughts(x);
        x.image(true);
        for (int turn = 0; turn < 2; turn++) {
            x.days(1 + turn);
            x.set(1, 0, turn);
            x.bit(0);
            Due.is("image(false)", x.image(false), true);
            Due.is("image(false) at once again", x.image(false), true);
            Due.same("gone back", Stand.war(x), was);
            Due.same("gone back", Stand.thoughts(x), thoughts);
        }
        x.days(2);
        x.image(true);
        x.days(2);
        x.image(false);
        Due.is("the one taken latest", x.look(5), 3);
    }

    private static void noImage() {
        Due.says("THE IMAGE is taken (true), or gone back to (false): true; false if there is none.");
        SlipperTruce x = twoSteps();
        String was = Stand.war(x);
        Due.is("there is none", x.image(false), false);
        Due.is("there is none", x.image(false), false);
        Due.same("nothing done", Stand.war(x), was);
        Due.is("look(12)", x.look(12), 2);
        Due.is("taken", x.image(true), true);
        Due.same("the taking changes nothing", Stand.war(x), was);
        Due.is("taken again", x.image(true), true);
        Due.is("gone back to", x.image(false), true);
        SlipperTruce fresh = new SlipperTruce();
        Due.is("of a new object: taken", fresh.image(true), true);
        fresh.officer(0, 1);
        Due.is("of a new object: gone back to", fresh.image(false), true);
        Due.is("nobody", fresh.look(0), 0);
    }
}
