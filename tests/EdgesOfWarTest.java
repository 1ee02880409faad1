/**
 * The document's parts 1 (OFFICERS) and 3 (A DAY), promises 1 to 7, 12 to 14 and 40:
 * each sentence that tells of an edge has a test of its own, which begins with it.
 */
public final class EdgesOfWarTest {
    public static void main(String[] args) {
        draws();
        men();
        lineAndDay();
        ordersOfTheDay();
        pressing();
        evening();
        byHand();
        theBook();
        promisesToTell();
        promisesToAsk();
        Due.close("EdgesOfWarTest");
    }

    private static void draws() {
        none();
        fiveHundredAndTwelveCalls();
        stateIsAnInt();
        drawWraps();
        drawIsWithoutSign();
    }

    private static void men() {
        officersAsTheyCome();
        skillOfOfficers();
        sleepOfOfficers();
        planOfOfficers();
        readOfOfficers();
        holeOfOfficers();
        doneOfOfficers();
        batmenAsTheyCome();
        careOfBatmen();
        wearOfBatmen();
    }

    private static void lineAndDay() {
        theLine();
        won();
        theDay();
        onceItIsWon();
    }

    private static void ordersOfTheDay() {
        ordersForIt();
        holeSoleNew();
        givenUp();
        couldNot();
        comesOn();
        truce();
    }

    private static void pressing() {
        quotientsDownwards();
        lessForSleep();
        carriedOut();
        toTheEnd();
        wonAtTheEnd();
        nobodyBehindHim();
        noEvening();
    }

    private static void evening() {
        sleepLess();
        batmanOrNone();
        sleepMore();
        wearMore();
        withAllThat();
        drawAboveNone();
        belowIt();
        dayOneMore();
    }

    private static void byHand() {
        marchByHand();
        holeByHand();
        soleByHand();
        newByHand();
        byHandUnlessWon();
    }

    private static void theBook() {
        bookIsFull();
        whoIsTold();
        bookTells();
        bookTellsOfReadOnce();
        bookTellsOfPlansAlone();
    }

    private static void promisesToTell() {
        nobodyAtWar();
        stateTells();
        officerOrNone();
        batmanOrNoneMore();
        setOfMen();
        setOfTheLine();
        setRefused();
        actNumbers();
        actRefused();
        daysBounds();
        daysCount();
        daysRefused();
    }

    private static void promisesToAsk() {
        hisBatman();
        whomHeNeeds();
        couldComeOn();
        asTheLawTells();
        ofRefused();
        whoServes();
        whoRefused();
        bookRefused();
        thoseRead();
        lookRefused();
        lookAtState();
    }

    // ---- what the tests begin with ----

    /** OFFICERS by SIDE and SKILL, two numbers each. */
    private static SlipperTruce officers(int... told) {
        SlipperTruce x = new SlipperTruce();
        for (int i = 0; i + 1 < told.length; i += 2) {
            x.officer(told[i], told[i + 1]);
        }
        return x;
    }

    /** One OFFICER of SIDE 0 who is served by one BATMAN, SKILL and CARE 0, by a law. */
    private static SlipperTruce served(String law) {
        SlipperTruce x = officers(0, 0);
        x.batman(1, 0);
        Due.told(x, 2, "officer 0 batman 0;", 1);
        Due.tell(x, 0, law);
        return x;
    }

    private static SlipperTruce twelve() {
        SlipperTruce x = new SlipperTruce();
        for (int i = 0; i < 12; i++) {
            x.officer(0, 0);
            x.batman(1, 0);
        }
        return x;
    }

    private static SlipperTruce wonWar() {
        SlipperTruce x = officers(0, 5, 1, 3);
        x.batman(1, 6);
        x.batman(0, 2);
        Due.tell(x, 2, "officer 0 batman 0;officer 1 batman 1;");
        x.set(4, 0, 7);
        x.set(2, 1, 99);
        x.act(1, 1, 0);
        x.set(5, 0, 98);
        x.days(1);
        Due.is("it is won", x.look(3), 0);
        return x;
    }

    // ---- draws ----

    private static void none() {
        Due.says("`NONE = -1`: None.");
        Due.is("NONE", SlipperTruce.NONE, -1);
    }

    private static void fiveHundredAndTwelveCalls() {
        Due.says("An object is used for at most 512 calls after it has been made");
        SlipperTruce x = new SlipperTruce();
        for (int call = 1; call <= 512; call++) {
            Due.is("call " + call, x.state(call), call - 1);
        }
        SlipperTruce y = served("presses 0;reads 0;");
        for (int call = 30; call <= 512; call++) {
            Due.is("call " + call, y.act(1 + call % 2, 0, 0), true);
        }
    }

    private static void stateIsAnInt() {
        Due.says("STATE of draws (an int, 0 at first)");
        SlipperTruce x = new SlipperTruce();
        Due.is("look(7)", x.look(7), 0);
        Due.is("state(least)", x.state(Integer.MIN_VALUE), 0);
        Due.is("look(7)", x.look(7), Integer.MIN_VALUE);
        Due.is("state(greatest)", x.state(Integer.MAX_VALUE), Integer.MIN_VALUE);
        Due.is("look(7)", x.look(7), Integer.MAX_VALUE);
        Due.is("state(0)", x.state(0), Integer.MAX_VALUE);
        Due.is("look(7)", x.look(7), 0);
    }

    private static void drawWraps() {
        Due.says("it becomes 1664525 times itself + 1013904223 (ints, which wrap)");
        int[] was = {0, 1, -1, 1 << 30, Integer.MIN_VALUE, Integer.MAX_VALUE};
        int[] due = {1013904223, 1015568748, 1012239698, 2087646047, -1133579425, -1135243950};
        for (int i = 0; i < was.length; i++) {
            SlipperTruce x = served("reads 1;");
            x.state(was[i]);
            x.days(1);
            Due.is("STATE behind a DRAW of " + was[i], x.look(7), due[i]);
        }
    }

    private static void drawIsWithoutSign() {
        Due.says("then it is its highest 24 bits (without sign) modulo m");
        // behind the DRAW STATE is 1013904223, 3161387871 less 2 to the 32, 3159723346 less as much
        int[] was = {0, Integer.MIN_VALUE, Integer.MAX_VALUE};
        int[] draw = {3960563 % 1000, 12349171 % 1000, 12342669 % 1000};
        for (int i = 0; i < was.length; i++) {
            SlipperTruce x = served("reads " + draw[i] + ";");
            x.state(was[i]);
            x.days(1);
            Due.is("READ of a DRAW that is not below reads, STATE " + was[i], x.of(0, 4), 0);
            SlipperTruce y = served("reads " + (draw[i] + 1) + ";");
            y.state(was[i]);
            y.days(1);
            Due.is("READ of a DRAW that is below reads, STATE " + was[i], y.of(0, 4), 1);
        }
    }

    // ---- OFFICERS, BATMEN ----

    private static void officersAsTheyCome() {
        Due.says("OFFICERS 0 .. 11 as they come");
        SlipperTruce x = new SlipperTruce();
        for (int i = 0; i < 12; i++) {
            Due.is("officer(" + i % 2 + ", 5)", x.officer(i % 2, 5), i);
        }
        Due.is("the thirteenth", x.officer(0, 5), -1);
        Due.is("look(0)", x.look(0), 12);
        Due.is("of(11, 0)", x.of(11, 0), 1);
        Due.is("of(12, 0)", x.of(12, 0), -2);
    }

    private static void skillOfOfficers() {
        Due.says("SIDE 0, 1, SKILL 0 .. 9");
        SlipperTruce x = new SlipperTruce();
        int[][] wrong = {{-1, 5}, {2, 5}, {0, -1}, {0, 10}, {1, -1}, {1, 10}};
        for (int[] w : wrong) {
            Due.is("officer(" + w[0] + ", " + w[1] + ")", x.officer(w[0], w[1]), -1);
        }
        for (int far : Due.FAR) {
            Due.is("officer(" + far + ", 5)", x.officer(far, 5), -1);
            Due.is("officer(0, " + far + ")", x.officer(0, far), -1);
        }
        Due.is("look(0)", x.look(0), 0);
        int[][] right = {{0, 0}, {1, 0}, {0, 9}, {1, 9}};
        for (int i = 0; i < right.length; i++) {
            Due.is("officer", x.officer(right[i][0], right[i][1]), i);
            Due.is("SIDE", x.of(i, 0), right[i][0]);
            Due.is("SKILL", x.of(i, 1), right[i][1]);
        }
        setIsWithin(0, 9, 1);
    }

    /** Of the second of two men what set() takes: 0 .. most; what is asked of him then; what it was stays. */
    private static void setIsWithin(int what, int most, int asked) {
        SlipperTruce x = wonWar();
        for (int turn = 0; turn < 2; turn++) {
            for (int v : new int[] {0, 1, most - 1, most}) {
                Due.is("set(" + what + ", 1, " + v + ")", x.set(what, 1, v), true);
                Due.is("as it was set", what < 3 ? x.of(1, asked) : x.who(1, asked), v);
            }
            for (int v : new int[] {-1, most + 1, Integer.MIN_VALUE, Integer.MAX_VALUE}) {
                Due.is("set(" + what + ", 1, " + v + ")", x.set(what, 1, v), false);
                Due.is("it stays", what < 3 ? x.of(1, asked) : x.who(1, asked), most);
            }
            x = officers(0, 1, 1, 2);
            x.batman(1, 1);
            x.batman(0, 2);
        }
    }

    private static void sleepOfOfficers() {
        Due.says("SLEEP 0 .. 99 (50 at first)");
        Due.is("SLEEP at first", officers(0, 5).of(0, 2), 50);
        setIsWithin(1, 99, 2);
    }

    private static void planOfOfficers() {
        Due.says("PLAN 0 .. 99 (how far it is come on, 0 at first)");
        Due.is("PLAN at first", officers(0, 5).of(0, 3), 0);
        setIsWithin(2, 99, 3);
    }

    private static void readOfOfficers() {
        Due.says("READ 0, 1 (whether his mind is read, 0 at first)");
        SlipperTruce x = served("reads 1000;");
        Due.is("READ at first", x.of(0, 4), 0);
        x.days(1);
        Due.is("READ", x.of(0, 4), 1);
        x.days(2);
        Due.is("READ again", x.of(0, 4), 1);
        Due.is("look(4)", x.look(4), 1);
    }

    private static void holeOfOfficers() {
        Due.says("HOLE 0, 1 (in his sole, 0 at first)");
        SlipperTruce x = officers(0, 5);
        Due.is("HOLE at first", x.of(0, 5), 0);
        x.act(1, 0, 0);
        Due.is("HOLE", x.of(0, 5), 1);
        Due.told(x, 1, "on 0 hole 0;on 0 hole 0;on 1 sole 0;on 1 sole 0;", 4);
        x.days(1);
        Due.is("HOLE again", x.of(0, 5), 1);
        x.days(1);
        Due.is("HOLE, soled twice", x.of(0, 5), 0);
    }

    private static void doneOfOfficers() {
        Due.says("DONE (plans carried out, an int, 0 at first)");
        SlipperTruce x = officers(0, 0);
        Due.is("DONE at first", x.of(0, 6), 0);
        for (int i = 1; i <= 110; i++) {
            x.set(2, 0, 99);
            x.set(5, 0, 0);
            x.days(1);
            Due.is("DONE", x.of(0, 6), i);
        }
    }

    private static void batmenAsTheyCome() {
        Due.says("BATMEN 0 .. 11 as they come");
        SlipperTruce x = new SlipperTruce();
        for (int i = 0; i < 12; i++) {
            Due.is("batman(" + i % 2 + ", 5)", x.batman(i % 2, 5), i);
        }
        Due.is("the thirteenth", x.batman(0, 5), -1);
        Due.is("look(1)", x.look(1), 12);
        Due.is("who(11, 0)", x.who(11, 0), 1);
        Due.is("who(12, 0)", x.who(12, 0), -1);
    }

    private static void careOfBatmen() {
        Due.says("SIDE 0, 1, CARE 0 .. 9");
        SlipperTruce x = new SlipperTruce();
        int[][] wrong = {{-1, 5}, {2, 5}, {0, -1}, {0, 10}, {1, -1}, {1, 10}};
        for (int[] w : wrong) {
            Due.is("batman(" + w[0] + ", " + w[1] + ")", x.batman(w[0], w[1]), -1);
        }
        for (int far : Due.FAR) {
            Due.is("batman(" + far + ", 5)", x.batman(far, 5), -1);
            Due.is("batman(0, " + far + ")", x.batman(0, far), -1);
        }
        Due.is("look(1)", x.look(1), 0);
        int[][] right = {{0, 0}, {1, 0}, {0, 9}, {1, 9}};
        for (int i = 0; i < right.length; i++) {
            Due.is("batman", x.batman(right[i][0], right[i][1]), i);
            Due.is("SIDE", x.who(i, 0), right[i][0]);
            Due.is("CARE", x.who(i, 1), right[i][1]);
        }
        setIsWithin(3, 9, 1);
    }

    private static void wearOfBatmen() {
        Due.says("WEAR 0 .. 99 (of the slippers he sets out, 0 at first)");
        SlipperTruce x = new SlipperTruce();
        x.batman(0, 9);
        Due.is("WEAR at first", x.who(0, 2), 0);
        setIsWithin(4, 99, 2);
    }

    // ---- THE LINE, DAY ----

    private static void theLine() {
        Due.says("THE LINE -99 .. 99 (0 at first; SIDE 0 presses it up, SIDE 1 down)");
        Due.is("at first", new SlipperTruce().look(2), 0);
        SlipperTruce up = officers(0, 7);
        up.days(1);
        Due.is("up", up.look(2), 7);
        SlipperTruce down = officers(1, 7);
        down.days(1);
        Due.is("down", down.look(2), -7);
        up.set(5, 0, 98);
        up.days(1);
        Due.is("99 at most", up.look(2), 99);
        down.set(5, 0, -98);
        down.days(1);
        Due.is("-99 at least", down.look(2), -99);
    }

    private static void won() {
        Due.says("WON 0 .. 1 which SIDE (NONE at first)");
        Due.is("at first", new SlipperTruce().look(3), -1);
        SlipperTruce x = officers(0, 9, 1, 5);
        x.days(1);
        Due.is("not yet", x.look(3), -1);
        x.set(5, 0, 91);
        x.days(1);
        Due.is("by SIDE 0", x.look(3), 0);
        SlipperTruce y = officers(0, 5, 1, 9);
        y.set(5, 0, -98);
        y.days(2);
        Due.is("by SIDE 1", y.look(3), 1);
    }

    private static void theDay() {
        Due.says("DAY 0 .. 9999 (0 at first)");
        SlipperTruce x = new SlipperTruce();
        Due.is("at first", x.look(5), 0);
        for (int i = 1; i <= 166; i++) {
            x.days(60);
            Due.is("look(5)", x.look(5), 60 * i);
        }
        Due.is("days(39)", x.days(39), 0);
        Due.is("look(5)", x.look(5), 9999);
        Due.is("days(1)", x.days(1), -1);
        Due.is("look(5)", x.look(5), 9999);
    }

    private static void onceItIsWon() {
        Due.says("(nothing but DAY one more, once it is WON)");
        SlipperTruce x = wonWar();
        Due.told(x, 0, "presses 20;rests 50;reads 1000;", 3);
        Due.told(x, 1, "on 1 march 0 9;on 1 hole 0;on 1 sole 1;on 1 new 0;on 1 march 1 9;on 2 march 1 5;", 6);
        Due.is("days(2)", x.days(2), 0);
        int[] look = {2, 2, 99, 0, 0, 3, 1, 0};
        for (int i = 0; i < look.length; i++) {
            Due.is("look(" + i + ")", x.look(i), look[i]);
        }
        int[][] of = {{0, 5, 50, 0, 0, 0, 0}, {1, 3, 50, 99, 0, 1, 0}};
        for (int i = 0; i < 2; i++) {
            for (int what = 0; what < 7; what++) {
                Due.is("of(" + i + ", " + what + ")", x.of(i, what), of[i][what]);
            }
            Due.is("who(" + i + ", 2)", x.who(i, 2), 7 - 7 * i);
        }
    }

    // ---- (a) ----

    private static void ordersForIt() {
        Due.says("(a) Line by line of ORDERS for it");
        SlipperTruce x = officers(0, 0);
        Due.told(x, 1, "on 999 march 0 7;on 0 march 0 1;on 0 hole 0;on 0 march 0 2;on 0 sole 0;on 0 march 0 3;"
                + "on 1 march 0 5;", 7);
        x.days(1);
        DaysTest.bookIs(x, new int[][] {{0, 0, 0, 1}, {0, 1, 0, 1}, {0, 0, 0, 3}});
        x.days(1);
        Due.is("PLAN behind DAY 1", x.of(0, 3), 8);
        for (int i = 0; i < 16; i++) {
            x.days(60);
        }
        x.days(37);
        Due.is("DAY", x.look(5), 999);
        Due.is("PLAN ahead of DAY 999", x.of(0, 3), 8);
        x.days(1);
        Due.is("PLAN behind DAY 999", x.of(0, 3), 15);
        x.days(60);
        Due.is("PLAN behind DAY 1000 and more", x.of(0, 3), 15);
    }

    private static void holeSoleNew() {
        Due.says("hole, sole: HOLE 1, 0; new: WEAR 0");
        SlipperTruce x = officers(0, 0, 0, 0, 0, 0, 0, 0);
        x.batman(1, 0);
        x.batman(1, 0);
        x.act(1, 1, 0);
        x.act(1, 3, 0);
        x.set(4, 0, 99);
        Due.told(x, 1, "on 0 hole 0;on 0 hole 1;on 0 sole 2;on 0 sole 3;on 0 new 0;on 0 new 1;", 6);
        x.days(1);
        int[] due = {1, 1, 0, 0};
        for (int i = 0; i < 4; i++) {
            Due.is("of(" + i + ", 5)", x.of(i, 5), due[i]);
        }
        Due.is("who(0, 2)", x.who(0, 2), 0);
        Due.is("who(1, 2)", x.who(1, 2), 0);
        Due.is("no line of THE BOOK", x.look(6), 0);
    }

    private static void givenUp() {
        Due.says("has he a HOLE, or is he READ, his plan is given up: PLAN 0, READ 0");
        for (int kind = 0; kind < 4; kind++) {
            for (int plan : new int[] {0, 30, 99}) {
                boolean hole = kind % 2 == 1;
                boolean read = kind > 1;
                SlipperTruce x = served(read ? "reads 1000;" : "reads 0;");
                x.days(1);
                x.set(2, 0, plan);
                if (hole) {
                    x.act(1, 0, 0);
                }
                int lines = x.look(6);
                Due.is("march", x.act(0, 0, 5), true);
                Due.is("PLAN, of " + kind, x.of(0, 3), kind == 0 ? Math.min(99, plan + 5) : 0);
                Due.is("READ, of " + kind, x.of(0, 4), 0);
                Due.is("HOLE stays, of " + kind, x.of(0, 5), hole ? 1 : 0);
                Due.is("THE BOOK, of " + kind, x.book(lines, 1), kind == 0 ? 0 : 1);
                Due.is("one line, of " + kind, x.look(6), lines + 1);
            }
        }
    }

    private static void couldNot() {
        Due.says("else, has not each whom he NEEDS a PLAN of 10 at least, he could not");
        SlipperTruce x = officers(0, 0, 0, 0, 0, 0);
        Due.told(x, 3, "officer 0 needs 1;officer 0 needs 2;", 2);
        x.set(2, 0, 40);
        int[][] plans = {{0, 0}, {9, 99}, {99, 9}, {10, 9}, {9, 10}, {10, 10}, {99, 99}};
        int plan = 40;
        for (int[] p : plans) {
            x.set(2, 1, p[0]);
            x.set(2, 2, p[1]);
            Due.is("march", x.act(0, 0, 7), true);
            boolean could = p[0] >= 10 && p[1] >= 10;
            plan += could ? 7 : 0;
            Due.is("PLAN with " + p[0] + " and " + p[1], x.of(0, 3), plan);
            Due.is("THE BOOK with " + p[0] + " and " + p[1], x.book(x.look(6) - 1, 1), could ? 0 : 2);
        }
        x.set(2, 1, 9);
        x.act(1, 0, 0);
        x.act(0, 0, 7);
        Due.is("a HOLE goes ahead of it", x.book(x.look(6) - 1, 1), 1);
        x.act(0, 2, 7);
        Due.is("who needs none", x.book(x.look(6) - 1, 1), 0);
    }

    private static void comesOn() {
        Due.says("else it comes on by N (99 at most)");
        int[][] marches = {{0, 1, 1}, {0, 99, 99}, {97, 1, 98}, {98, 1, 99}, {98, 2, 99}, {99, 1, 99}, {99, 99, 99}};
        for (int[] m : marches) {
            SlipperTruce x = officers(0, 0);
            x.set(2, 0, m[0]);
            x.act(0, 0, m[1]);
            Due.is("PLAN " + m[0] + " by " + m[1], x.of(0, 3), m[2]);
            SlipperTruce y = officers(0, 0);
            y.set(2, 0, m[0]);
            Due.told(y, 1, "on 0 march 0 " + m[1] + ";on 0 truce;", 2);
            y.days(1);
            Due.is("PLAN " + m[0] + " by ORDERS by " + m[1], y.of(0, 3), m[2]);
        }
    }

    private static void truce() {
        Due.says("truce: nobody presses on this DAY");
        for (String orders : new String[] {"on 1 truce;on 1 march 1 5;", "on 1 march 1 5;on 1 truce;"}) {
            SlipperTruce x = officers(0, 9, 1, 2);
            x.batman(1, 4);
            Due.told(x, 2, "officer 0 batman 0;", 1);
            Due.told(x, 1, orders, 2);
            x.days(1);
            Due.is("ahead of it", x.look(2), 9 - 2);
            x.set(2, 0, 99);
            Due.is("plans carried out in it", x.days(1), 0);
            Due.is("in it", x.look(2), 7);
            Due.is("PLAN", x.of(0, 3), 99);
            Due.is("PLAN, by ORDERS", x.of(1, 3), 5);
            Due.is("SLEEP, as there is an evening", x.of(1, 2), 30);
            Due.is("WEAR", x.who(0, 2), 2);
            Due.is("plans carried out behind it", x.days(1), 1);
            Due.is("behind it", x.look(2), 7 + 19 - 0);
        }
    }

    // ---- (b) ----

    private static void quotientsDownwards() {
        Due.says("Quotients go downwards.");
        int[][] sleeps = {{49, 0}, {45, 0}, {41, 0}, {40, 1}, {39, 1}, {31, 1}, {30, 2}, {1, 4}, {0, 5}};
        for (int[] s : sleeps) {
            SlipperTruce x = officers(1, 9);
            x.set(1, 0, s[0]);
            x.days(1);
            Due.is("less by SLEEP " + s[0], 9 + x.look(2), s[1]);
        }
    }

    private static void lessForSleep() {
        Due.says("less as many as 50 less SLEEP by 10 is (if SLEEP is below 50; 0 at least)");
        for (int sleep = 0; sleep < 100; sleep++) {
            SlipperTruce x = officers(sleep % 2, 9);
            x.set(1, 0, sleep);
            x.days(1);
            // 1 .. 10: 4, 11 .. 20: 3, and so on
            int less = sleep == 0 ? 5 : sleep > 40 ? 0 : 4 - (sleep - 1) / 10;
            Due.is("pressed with SLEEP " + sleep, x.look(2), sleep % 2 == 0 ? 9 - less : less - 9);
        }
        int[] due = {0, 0, 0, 0, 0, 0, 1, 2};
        for (int skill = 0; skill < due.length; skill++) {
            SlipperTruce x = officers(0, skill, 1, skill, 1, skill);
            x.set(1, 0, 0);
            x.set(1, 1, 0);
            x.set(1, 2, 0);
            x.days(1);
            Due.is("pressed with SLEEP 0 and SKILL " + skill, x.look(2), -due[skill]);
        }
    }

    private static void carriedOut() {
        Due.says("is PLAN 99, it is carried out: 10 more behind that, DONE one more, PLAN 0 then");
        int[][] plans = {{98, 50, 9, 0, 98}, {99, 50, 19, 1, 0}, {0, 50, 9, 0, 0}, {99, 0, 14, 1, 0}};
        for (int[] p : plans) {
            SlipperTruce x = officers(0, 9);
            x.set(2, 0, p[0]);
            x.set(1, 0, p[1]);
            Due.is("days(1) with PLAN " + p[0], x.days(1), p[3]);
            Due.is("THE LINE", x.look(2), p[2]);
            Due.is("DONE", x.of(0, 6), p[3]);
            Due.is("PLAN", x.of(0, 3), p[4]);
        }
        SlipperTruce none = officers(1, 2);
        none.set(1, 0, 0);
        none.set(2, 0, 99);
        none.days(1);
        Due.is("behind that: 10 more than none", none.look(2), -10);
        SlipperTruce most = officers(0, 2);
        Due.told(most, 0, "presses 21;", 1);
        most.set(2, 0, 99);
        most.days(1);
        Due.is("behind that: 10 more than 20", most.look(2), 30);
    }

    /** From a line on with 30 more up, or down. */
    private static SlipperTruce pressedBy30(int side, int line) {
        SlipperTruce x = officers(side, 0);
        Due.tell(x, 0, "presses 20;");
        x.set(2, 0, 99);
        x.set(5, 0, line);
        x.days(1);
        return x;
    }

    private static void toTheEnd() {
        Due.says("THE LINE so much up (SIDE 0) or down (SIDE 1), to 99, -99 at most.");
        int[][] lines = {{68, 98}, {69, 99}, {70, 99}, {98, 99}, {-98, -68}};
        for (int[] line : lines) {
            Due.is("up from " + line[0], pressedBy30(0, line[0]).look(2), line[1]);
            Due.is("down from " + -line[0], pressedBy30(1, -line[0]).look(2), -line[1]);
        }
    }

    private static void wonAtTheEnd() {
        Due.says("Is it at 99 or -99 then: WON is 0 or 1");
        int[][] lines = {{68, -1}, {69, 0}, {70, 0}, {98, 0}, {-98, -1}};
        for (int[] line : lines) {
            Due.is("up from " + line[0], pressedBy30(0, line[0]).look(3), line[1]);
            Due.is("down from " + -line[0], pressedBy30(1, -line[0]).look(3), line[1] == 0 ? 1 : -1);
        }
        SlipperTruce x = officers(1, 1, 0, 1, 1, 1);
        x.set(5, 0, 98);
        x.days(1);
        Due.is("98 and not at 99 in between", x.look(3), -1);
        Due.is("THE LINE", x.look(2), 97);
    }

    private static void nobodyBehindHim() {
        Due.says("nobody behind him presses any more");
        SlipperTruce x = officers(1, 3, 0, 9, 1, 9, 0, 9);
        x.set(5, 0, 93);
        x.set(2, 2, 99);
        x.set(2, 3, 99);
        Due.is("days(1)", x.days(1), 0);
        Due.is("THE LINE: 90 and 9 more", x.look(2), 99);
        for (int i = 2; i < 4; i++) {
            Due.is("PLAN of one behind", x.of(i, 3), 99);
            Due.is("DONE of one behind", x.of(i, 6), 0);
        }
        DaysTest.bookIs(x, new int[][] {{0, 5, 1, 0}});
    }

    private static void noEvening() {
        Due.says("and there is no (c)");
        SlipperTruce x = served("presses 1;rests 20;reads 1000;");
        x.set(5, 0, 98);
        x.days(1);
        Due.is("WON", x.look(3), 0);
        Due.is("SLEEP", x.of(0, 2), 50);
        Due.is("WEAR", x.who(0, 2), 0);
        Due.is("READ", x.of(0, 4), 0);
        Due.is("STATE", x.look(7), 0);
        SlipperTruce y = served("presses 1;rests 20;reads 1000;");
        y.set(5, 0, 97);
        y.days(1);
        Due.is("SLEEP, if it is not won", y.of(0, 2), 60);
    }

    // ---- (c) ----

    private static void sleepLess() {
        Due.says("SLEEP 10 less (0 at least)");
        int[][] sleeps = {{0, 0}, {1, 0}, {9, 0}, {10, 0}, {11, 1}, {50, 40}, {99, 89}};
        for (int[] s : sleeps) {
            SlipperTruce x = officers(0, 0);
            x.set(1, 0, s[0]);
            x.days(1);
            Due.is("SLEEP of " + s[0], x.of(0, 2), s[1]);
        }
    }

    private static void batmanOrNone() {
        Due.says("has he a BATMAN: then rests is asked");
        SlipperTruce x = served("rests 20;reads 1000;");
        x.officer(0, 0);
        x.batman(1, 0);
        x.days(1);
        Due.is("SLEEP with one", x.of(0, 2), 60);
        Due.is("SLEEP without one", x.of(1, 2), 40);
        Due.is("READ without one", x.of(1, 4), 0);
        Due.is("WEAR of his", x.who(0, 2), 1);
        Due.is("WEAR of nobody's", x.who(1, 2), 0);
        Due.is("STATE: one DRAW", x.look(7), 1013904223);
    }

    private static void sleepMore() {
        Due.says("SLEEP so much more (99 at most)");
        int[][] nights = {{50, 0, 40}, {88, 20, 98}, {89, 20, 99}, {90, 20, 99}, {99, 20, 99}, {0, 99, 99},
            {5, 98, 98}, {10, 99, 99}, {99, 99, 99}};
        for (int[] n : nights) {
            SlipperTruce x = served("rests " + n[1] + ";reads 0;");
            x.set(1, 0, n[0]);
            x.days(1);
            Due.is("SLEEP of " + n[0] + " and " + n[1], x.of(0, 2), n[2]);
        }
    }

    private static void wearMore() {
        Due.says("WEAR one more (99 at most)");
        int[][] wears = {{0, 1}, {97, 98}, {98, 99}, {99, 99}};
        for (int[] w : wears) {
            SlipperTruce x = served("");
            x.set(4, 0, w[0]);
            x.days(1);
            Due.is("WEAR of " + w[0], x.who(0, 2), w[1]);
        }
        SlipperTruce two = served("");
        two.officer(0, 0);
        Due.told(two, 2, "officer 0 batman 0;officer 1 batman 0;", 2);
        two.days(1);
        Due.is("WEAR by two", two.who(0, 2), 2);
        two.set(4, 0, 98);
        two.days(1);
        Due.is("WEAR by two at the end", two.who(0, 2), 99);
    }

    private static void withAllThat() {
        Due.says("then, with all that, reads is asked");
        String[] laws = {"rests 30;reads 1000 when wear=1;reads 0;", "rests 30;reads 1000 when sleep=70;reads 0;",
            "rests 30;reads 1000 when wear=0;reads 0;", "rests 30;reads 1000 when sleep<70;reads 0;",
            "rests 30 when wear=0 and sleep=40;rests 0;reads 1000 when sleep=70;reads 0;"};
        int[] due = {1, 1, 0, 0, 1};
        for (int i = 0; i < laws.length; i++) {
            SlipperTruce x = served(laws[i]);
            x.days(1);
            Due.is("READ by \"" + laws[i] + "\"", x.of(0, 4), due[i]);
        }
    }

    private static void drawAboveNone() {
        Due.says("is it above 0, a DRAW of 1000");
        String[] reads = {"reads 0;", "reads 0-1;", "reads 1;", "reads 1000;", ""};
        int[] due = {0, 0, 1013904223, 1013904223, 1013904223};
        for (int i = 0; i < reads.length; i++) {
            SlipperTruce x = served(reads[i]);
            x.days(1);
            Due.is("STATE behind \"" + reads[i] + "\"", x.look(7), due[i]);
        }
        SlipperTruce x = served("reads 1000;");
        x.days(2);
        Due.is("STATE: drawn of one who is READ, too", x.look(7), 1013904223 * 1664525 + 1013904223);
    }

    private static void belowIt() {
        Due.says("below it READ is 1");
        // the first DRAW of STATE 0 is 563
        int[][] reads = {{1, 0}, {562, 0}, {563, 0}, {564, 1}, {565, 1}, {1000, 1}};
        for (int[] r : reads) {
            SlipperTruce x = served("reads " + r[0] + ";");
            x.days(1);
            Due.is("READ by reads " + r[0], x.of(0, 4), r[1]);
        }
        SlipperTruce x = served("reads 1000 when day=0;reads 1;");
        x.days(2);
        Due.is("READ stays, if the DRAW is not below it", x.of(0, 4), 1);
    }

    private static void dayOneMore() {
        Due.says("DAY is one more (it is, too, if it was WON on it)");
        SlipperTruce x = officers(0, 9);
        x.days(1);
        Due.is("DAY", x.look(5), 1);
        x.set(5, 0, 98);
        x.days(1);
        Due.is("WON", x.look(3), 0);
        Due.is("DAY", x.look(5), 2);
        x.days(1);
        Due.is("DAY behind it", x.look(5), 3);
    }

    // ---- by hand ----

    private static void marchByHand() {
        Due.says("to MARCH (N 1 .. 99, as in (a), given up and could not, too)");
        SlipperTruce x = officers(0, 0, 0, 0);
        Due.told(x, 3, "officer 0 needs 1;", 1);
        for (int n : new int[] {0, -1, 100, Integer.MIN_VALUE, Integer.MAX_VALUE}) {
            Due.is("act(0, 1, " + n + ")", x.act(0, 1, n), false);
        }
        Due.is("nothing was done", x.look(6) + x.look(12) + x.of(1, 3), 0);
        Due.is("could not", x.act(0, 0, 99), true);
        Due.is("came on", x.act(0, 1, 1), true);
        x.act(1, 1, 0);
        Due.is("given up", x.act(0, 1, 99), true);
        DaysTest.bookIs(x, new int[][] {{0, 2, 0, 0}, {0, 0, 1, 1}, {0, 1, 1, 1}});
        Due.is("all four go back", x.look(12), 4);
    }

    private static void holeByHand() {
        Due.says("to put a HOLE in a sole that has none");
        SlipperTruce x = officers(0, 0);
        Due.is("with none", x.act(1, 0, 0), true);
        Due.is("HOLE", x.of(0, 5), 1);
        Due.is("with one", x.act(1, 0, 0), false);
        Due.is("HOLE", x.of(0, 5), 1);
        Due.is("look(12)", x.look(12), 1);
    }

    private static void soleByHand() {
        Due.says("to SOLE one that has");
        SlipperTruce x = officers(0, 0);
        Due.is("with none", x.act(2, 0, 0), false);
        Due.is("HOLE", x.of(0, 5), 0);
        x.act(1, 0, 0);
        Due.is("with one", x.act(2, 0, 0), true);
        Due.is("HOLE", x.of(0, 5), 0);
        Due.is("soled already", x.act(2, 0, 0), false);
        Due.is("look(12)", x.look(12), 2);
    }

    private static void newByHand() {
        Due.says("NEW slippers for a BATMAN with WEAR");
        SlipperTruce x = new SlipperTruce();
        x.batman(0, 0);
        Due.is("WEAR 0", x.act(3, 0, 0), false);
        for (int wear : new int[] {1, 99}) {
            x.set(4, 0, wear);
            Due.is("WEAR " + wear, x.act(3, 0, 0), true);
            Due.is("who(0, 2)", x.who(0, 2), 0);
            Due.is("WEAR 0 again", x.act(3, 0, 0), false);
        }
    }

    private static void byHandUnlessWon() {
        Due.says("only while it is not WON");
        SlipperTruce x = wonWar();
        String was = Stand.war(x);
        int[][] acts = {{0, 0, 5}, {1, 0, 0}, {2, 1, 0}, {3, 0, 0}};
        for (int[] a : acts) {
            Due.is("act(" + a[0] + ", " + a[1] + ", " + a[2] + ")", x.act(a[0], a[1], a[2]), false);
        }
        Due.same("refused", Stand.war(x), was);
        x.undo();
        for (int[] a : acts) {
            Due.is("not won: act(" + a[0] + ", " + a[1] + ", " + a[2] + ")", x.act(a[0], a[1], a[2]), true);
        }
    }

    // ---- THE BOOK ----

    private static void bookIsFull() {
        Due.says("THE BOOK (150 lines; no more then)");
        SlipperTruce x = officers(0, 1, 0, 1);
        for (int i = 0; i < 148; i++) {
            x.act(0, 0, 1);
        }
        Due.is("look(6)", x.look(6), 148);
        x.set(2, 1, 99);
        x.set(5, 0, 98);
        Due.is("three would come: days(1)", x.days(1), 1);
        Due.is("look(6)", x.look(6), 150);
        Due.is("WON", x.look(3), 0);
        int[][] last = {{0, 3, 0, 11}, {0, 5, 0, 0}};
        for (int i = 0; i < 2; i++) {
            for (int what = 0; what < 4; what++) {
                Due.is("book(" + (148 + i) + ", " + what + ")", x.book(148 + i, what), last[i][what]);
            }
        }
        Due.is("book(150, 0)", x.book(150, 0), -1);
        x.undo();
        Due.is("look(6), undone", x.look(6), 148);
        for (int i = 149; i <= 153; i++) {
            Due.is("act(0, 0, 1)", x.act(0, 0, 1), true);
            Due.is("look(6)", x.look(6), Math.min(150, i));
        }
        Due.is("what the last line tells", x.book(149, 1), 0);
        Due.is("PLAN is at its end", x.of(0, 3), 99);
        x.act(1, 0, 0);
        x.act(0, 0, 1);
        Due.is("given up, without a line", x.of(0, 3), 0);
        Due.is("look(6)", x.look(6), 150);
        Due.is("what the last line tells", x.book(149, 1), 0);
        Due.is("how much it tells", x.book(149, 3), 99);
    }

    private static void whoIsTold() {
        Due.says("who (the OFFICER; 5: the one who pressed)");
        SlipperTruce x = twelve();
        for (int i = 0; i < 11; i++) {
            x.set(0, i, 0);
        }
        x.set(0, 11, 9);
        x.set(5, 0, 90);
        x.act(0, 11, 5);
        x.act(0, 0, 5);
        x.days(1);
        DaysTest.bookIs(x, new int[][] {{0, 0, 11, 5}, {0, 0, 0, 5}, {0, 5, 11, 0}});
    }

    private static void bookTells() {
        Due.says("how much (0: PLAN then; 1: PLAN it had; 2: PLAN; 3: how much he pressed with it; 4: SLEEP then, "
                + "behind the rest; 5: SIDE)");
        SlipperTruce x = officers(1, 9, 1, 4);
        x.batman(0, 0);
        Due.told(x, 0, "rests 27;reads 1000;", 2);
        Due.told(x, 2, "officer 1 batman 0;", 1);
        Due.told(x, 3, "officer 0 needs 1;", 1);
        x.set(2, 0, 33);
        x.act(0, 0, 5);
        x.act(0, 1, 98);
        x.act(0, 1, 98);
        Due.told(x, 1, "on 1 march 1 3;", 1);
        x.set(1, 1, 35);
        x.days(2);
        x.set(5, 0, -94);
        x.set(2, 1, 99);
        x.set(2, 0, 40);
        x.act(1, 0, 0);
        x.act(0, 0, 1);
        x.days(1);
        DaysTest.bookIs(x, new int[][] {{0, 2, 0, 33}, {0, 0, 1, 98}, {0, 0, 1, 99}, {0, 3, 1, 13}, {0, 4, 1, 52},
            {1, 1, 1, 0}, {1, 4, 1, 69}, {2, 1, 0, 40}, {2, 5, 0, 1}});
    }

    private static void bookTellsOfReadOnce() {
        Due.says("4 if READ was 0");
        SlipperTruce x = served("reads 1000;rests 10;");
        x.days(3);
        DaysTest.bookIs(x, new int[][] {{0, 4, 0, 50}});
        x.act(0, 0, 5);
        x.days(2);
        DaysTest.bookIs(x, new int[][] {{0, 4, 0, 50}, {3, 1, 0, 0}, {3, 4, 0, 50}});
    }

    private static void bookTellsOfPlansAlone() {
        Due.says("3 of who carried one out alone");
        SlipperTruce x = officers(0, 9, 1, 9, 0, 9);
        x.set(2, 1, 99);
        x.set(2, 2, 98);
        x.days(1);
        DaysTest.bookIs(x, new int[][] {{0, 3, 1, 19}});
    }

    // ---- promises 1 to 7 ----

    private static void nobodyAtWar() {
        Due.says("Nobody at war.");
        SlipperTruce x = new SlipperTruce();
        int[] look = {0, 0, 0, -1, 0, 0, 0, 0, 0, 0, 0, 0, 0};
        for (int i = 0; i < look.length; i++) {
            Due.is("look(" + i + ")", x.look(i), look[i]);
        }
        Due.is("of(0, 0)", x.of(0, 0), -2);
        Due.is("who(0, 0)", x.who(0, 0), -1);
        Due.is("book(0, 0)", x.book(0, 0), -1);
        Due.is("undo()", x.undo(), false);
        Due.is("image(false)", x.image(false), false);
        Due.is("end(1)", x.end(1), false);
        Due.is("fault(0)", x.fault(0), 0);
        Due.is("fault(1)", x.fault(1), -1);
        for (int what = 0; what < 4; what++) {
            Due.is("goes(60, " + what + ")", x.goes(60, what), 0);
        }
        Due.is("peace()", x.peace(), -1);
        Due.is("days(60)", x.days(60), 0);
        Due.is("look(5)", x.look(5), 60);
        Due.is("look(2)", x.look(2), 0);
    }

    private static void stateTells() {
        Due.says("STATE is told: what it was.");
        SlipperTruce x = served("reads 1;");
        Due.is("state(5)", x.state(5), 0);
        Due.is("state(5)", x.state(5), 5);
        x.state(0);
        x.days(1);
        Due.is("state(-1) behind a DRAW", x.state(-1), 1013904223);
        Due.is("look(7)", x.look(7), -1);
    }

    private static void officerOrNone() {
        Due.says("An OFFICER: the number; NONE if one can't be, or there are twelve.");
        SlipperTruce x = new SlipperTruce();
        for (int i = 0; i < 12; i++) {
            Due.is("one that can't be", x.officer(2, 10), -1);
            Due.is("the number", x.officer(1, i % 10), i);
        }
        String was = Stand.war(x);
        Due.is("there are twelve", x.officer(0, 9), -1);
        Due.is("there are twelve", x.officer(-1, -1), -1);
        Due.same("refused", Stand.war(x), was);
    }

    private static void batmanOrNoneMore() {
        Due.says("A BATMAN: the number; NONE if one can't be, or there are twelve.");
        SlipperTruce x = new SlipperTruce();
        for (int i = 0; i < 12; i++) {
            Due.is("one that can't be", x.batman(2, 10), -1);
            Due.is("the number", x.batman(1, i % 10), i);
        }
        String was = Stand.war(x);
        Due.is("there are twelve", x.batman(0, 9), -1);
        Due.is("there are twelve", x.batman(-1, -1), -1);
        Due.same("refused", Stand.war(x), was);
    }

    private static void setOfMen() {
        Due.says("What 0 SKILL, 1 SLEEP, 2 PLAN of OFFICER who, 3 CARE, 4 WEAR of BATMAN who (all these also once it "
                + "is WON)");
        SlipperTruce x = wonWar();
        for (int who = 0; who < 2; who++) {
            for (int what = 0; what < 5; what++) {
                for (int v = 1; v < 10; v += 4) {
                    Due.is("set(" + what + ", " + who + ", " + v + ")", x.set(what, who, v), true);
                    Due.is("as set", what < 3 ? x.of(who, what + 1) : x.who(who, what - 2), v);
                }
            }
        }
    }

    private static void setOfTheLine() {
        Due.says("5 THE LINE (-98 .. 98, only while it is not WON; who not asked)");
        SlipperTruce x = officers(0, 1);
        int[] whos = {0, 5, -1, Integer.MIN_VALUE, Integer.MAX_VALUE};
        int[] lines = {-98, 98, 0, -97, 97};
        for (int i = 0; i < whos.length; i++) {
            Due.is("set(5, " + whos[i] + ", " + lines[i] + ")", x.set(5, whos[i], lines[i]), true);
            Due.is("look(2)", x.look(2), lines[i]);
        }
        for (int v : new int[] {-99, 99, -100, 100, Integer.MIN_VALUE, Integer.MAX_VALUE}) {
            Due.is("set(5, 0, " + v + ")", x.set(5, 0, v), false);
            Due.is("look(2)", x.look(2), 97);
        }
        SlipperTruce won = wonWar();
        Due.is("WON: set(5, 0, 0)", won.set(5, 0, 0), false);
        Due.is("WON: set(5, 0, 98)", won.set(5, 0, 98), false);
        Due.is("WON: look(2)", won.look(2), 99);
        won.undo();
        Due.is("not WON any more: set(5, 0, 0)", won.set(5, 0, 0), true);
    }

    private static void setRefused() {
        Due.says("true; false if one can't be, or another what.");
        SlipperTruce x = officers(0, 5, 1, 3);
        x.batman(1, 6);
        x.batman(0, 2);
        x.batman(0, 3);
        String was = Stand.war(x);
        for (int what = 0; what < 5; what++) {
            for (int who : new int[] {-1, what < 3 ? 2 : 3, 11, 12, Integer.MIN_VALUE, Integer.MAX_VALUE}) {
                Due.is("set(" + what + ", " + who + ", 1)", x.set(what, who, 1), false);
            }
            Due.is("set(" + what + ", 0, -1)", x.set(what, 0, -1), false);
            Due.is("set(" + what + ", 0, 100)", x.set(what, 0, 100), false);
        }
        for (int what : new int[] {-1, 6, Integer.MIN_VALUE, Integer.MAX_VALUE}) {
            Due.is("set(" + what + ", 0, 1)", x.set(what, 0, 1), false);
        }
        Due.is("set(5, 0, 99)", x.set(5, 0, 99), false);
        Due.same("refused", Stand.war(x), was);
    }

    private static void actNumbers() {
        Due.says("3 NEW slippers for BATMAN who (1, 2, 3: v not asked)");
        SlipperTruce x = officers(0, 5);
        x.batman(1, 6);
        for (int v : new int[] {0, -1, 100, Integer.MIN_VALUE, Integer.MAX_VALUE}) {
            x.set(4, 0, 1);
            Due.is("act(1, 0, " + v + ")", x.act(1, 0, v), true);
            Due.is("HOLE", x.of(0, 5), 1);
            Due.is("act(2, 0, " + v + ")", x.act(2, 0, v), true);
            Due.is("HOLE", x.of(0, 5), 0);
            Due.is("act(3, 0, " + v + ")", x.act(3, 0, v), true);
            Due.is("WEAR", x.who(0, 2), 0);
        }
    }

    private static void actRefused() {
        Due.says("true; false if it can't be (WON), or another what.");
        SlipperTruce x = officers(0, 5, 1, 3);
        x.batman(1, 6);
        x.batman(0, 2);
        x.batman(0, 3);
        for (int i = 0; i < 3; i++) {
            x.set(4, i, 9);
        }
        x.act(1, 1, 0);
        String was = Stand.war(x);
        for (int what = 0; what < 4; what++) {
            for (int who : new int[] {-1, what < 3 ? 2 : 3, 11, 12, Integer.MIN_VALUE, Integer.MAX_VALUE}) {
                Due.is("act(" + what + ", " + who + ", 5)", x.act(what, who, 5), false);
            }
        }
        for (int what : new int[] {-1, 4, 5, Integer.MIN_VALUE, Integer.MAX_VALUE}) {
            Due.is("act(" + what + ", 0, 5)", x.act(what, 0, 5), false);
        }
        Due.is("act(0, 0, 0)", x.act(0, 0, 0), false);
        Due.is("act(0, 0, 100)", x.act(0, 0, 100), false);
        Due.same("refused", Stand.war(x), was);
        Due.is("look(12)", x.look(12), 1);
        SlipperTruce won = wonWar();
        Due.is("WON: act(0, 0, 5)", won.act(0, 0, 5), false);
        Due.is("WON: act(3, 0, 5)", won.act(3, 0, 5), false);
    }

    private static void daysBounds() {
        Due.says("DAYS go by (1 .. 60)");
        SlipperTruce x = new SlipperTruce();
        Due.is("days(1)", x.days(1), 0);
        Due.is("look(5)", x.look(5), 1);
        Due.is("days(60)", x.days(60), 0);
        Due.is("look(5)", x.look(5), 61);
        Due.is("days(0)", x.days(0), -1);
        Due.is("days(61)", x.days(61), -1);
        Due.is("look(5)", x.look(5), 61);
    }

    private static void daysCount() {
        Due.says("how many plans were carried out");
        SlipperTruce x = officers(0, 0, 1, 0);
        x.set(2, 0, 99);
        x.set(2, 1, 99);
        Due.told(x, 1, "on 1 march 0 99;on 3 march 0 99;on 3 march 1 99;on 4 march 1 98;", 4);
        Due.is("days(5)", x.days(5), 2 + 1 + 0 + 2 + 0);
        Due.is("days(1)", x.days(1), 0);
        x.set(2, 1, 99);
        Due.is("days(1)", x.days(1), 1);
    }

    private static void daysRefused() {
        Due.says("NONE, and nothing is done, if one can't be, or DAY would be above 9999.");
        SlipperTruce x = served("reads 0;");
        String was = Stand.war(x);
        for (int n : new int[] {0, -1, 61, Integer.MIN_VALUE, Integer.MIN_VALUE + 1, Integer.MAX_VALUE}) {
            Due.is("days(" + n + ")", x.days(n), -1);
        }
        Due.same("refused", Stand.war(x), was);
        Due.is("look(12)", x.look(12), 0);
        for (int i = 0; i < 166; i++) {
            x.days(60);
        }
        was = Stand.war(x);
        for (int n : new int[] {40, 41, 60, 61}) {
            Due.is("days(" + n + ") from 9960 on", x.days(n), -1);
        }
        Due.same("refused", Stand.war(x), was);
        Due.is("days(39)", x.days(39), 0);
        Due.is("look(5)", x.look(5), 9999);
        was = Stand.war(x);
        Due.is("days(1)", x.days(1), -1);
        Due.same("refused", Stand.war(x), was);
    }

    // ---- promises 12 to 14, 40 ----

    private static void hisBatman() {
        Due.says("7 his BATMAN (NONE)");
        SlipperTruce x = twelve();
        Due.is("of(0, 7)", x.of(0, 7), -1);
        Due.told(x, 2, "officer 0 batman 11;officer 11 batman 0;", 2);
        Due.is("of(0, 7)", x.of(0, 7), 11);
        Due.is("of(11, 7)", x.of(11, 7), 0);
        Due.is("of(5, 7)", x.of(5, 7), -1);
    }

    private static void whomHeNeeds() {
        Due.says("8 whom he NEEDS (a set)");
        SlipperTruce x = twelve();
        Due.is("of(0, 8)", x.of(0, 8), 0);
        Due.told(x, 3, "officer 0 needs 11;officer 0 needs 1;officer 0 needs 11;officer 11 needs 0;", 4);
        Due.is("of(0, 8)", x.of(0, 8), 2048 + 2);
        Due.is("of(11, 8)", x.of(11, 8), 1);
        Due.is("of(1, 8)", x.of(1, 8), 0);
        StringBuilder all = new StringBuilder();
        for (int i = 1; i < 12; i++) {
            all.append("officer 0 needs ").append(i).append(';');
        }
        Due.told(x, 3, all.toString(), 11);
        Due.is("of(0, 8): all the others", x.of(0, 8), 4095 - 1);
    }

    private static void couldComeOn() {
        Due.says("12 whether his plan could come on now (1, 0; also once it is WON)");
        SlipperTruce x = served("presses 1;reads 1000;");
        x.officer(0, 0);
        Due.is("at first", x.of(0, 12), 1);
        Due.told(x, 3, "officer 0 needs 1;", 1);
        x.set(2, 1, 9);
        Due.is("9 is too little", x.of(0, 12), 0);
        x.set(2, 1, 10);
        Due.is("10 is enough", x.of(0, 12), 1);
        x.act(1, 0, 0);
        Due.is("with a HOLE", x.of(0, 12), 0);
        x.act(2, 0, 0);
        x.set(2, 0, 99);
        Due.is("at 99, too", x.of(0, 12), 1);
        x.set(2, 0, 0);
        x.days(1);
        Due.is("READ", x.of(0, 12), 0);
        x.act(0, 0, 5);
        Due.is("READ no more", x.of(0, 12), 1);
        x.set(5, 0, 98);
        x.days(1);
        Due.is("WON", x.look(3), 0);
        Due.is("once it is WON", x.of(0, 12), 1);
        x.set(2, 1, 9);
        Due.is("once it is WON, with 9", x.of(0, 12), 0);
    }

    private static void asTheLawTells() {
        Due.says("9 presses (as THE LAW tells)");
        SlipperTruce x = officers(0, 9);
        for (int sleep : new int[] {0, 9, 49, 50, 99}) {
            x.set(1, 0, sleep);
            Due.is("of(0, 9) with SLEEP " + sleep, x.of(0, 9), 9);
        }
        x.set(2, 0, 99);
        Due.is("of(0, 9) with PLAN 99", x.of(0, 9), 9);
        SlipperTruce won = wonWar();
        Due.is("of(1, 9) once it is WON", won.of(1, 9), 3);
    }

    private static void ofRefused() {
        Due.says("NONE - 1 if there is none such, or another what.");
        SlipperTruce x = officers(0, 5, 1, 3);
        for (int what : new int[] {0, 7, 9, 12}) {
            for (int who : new int[] {-1, 2, 11, 12, Integer.MIN_VALUE, Integer.MAX_VALUE}) {
                Due.is("of(" + who + ", " + what + ")", x.of(who, what), -2);
            }
        }
        for (int what : new int[] {-1, 13, Integer.MIN_VALUE, Integer.MAX_VALUE}) {
            Due.is("of(0, " + what + ")", x.of(0, what), -2);
            Due.is("of(2, " + what + ")", x.of(2, what), -2);
        }
        Due.is("of(1, 0)", x.of(1, 0), 1);
        Due.is("of a new object", new SlipperTruce().of(0, 0), -2);
        Due.is("of twelve", twelve().of(12, 0), -2);
    }

    private static void whoServes() {
        Due.says("3 whom he serves (a set)");
        SlipperTruce x = twelve();
        Due.is("nobody", x.who(0, 3), 0);
        Due.told(x, 2, "officer 0 batman 11;officer 11 batman 11;officer 5 batman 0;officer 5 batman 11;", 4);
        Due.is("who(11, 3)", x.who(11, 3), 1 + 32 + 2048);
        Due.is("who(0, 3): another one came behind", x.who(0, 3), 0);
    }

    private static void whoRefused() {
        Due.says("0 SIDE, 1 CARE, 2 WEAR, 3 whom he serves (a set). NONE if there is none such, or another what.");
        SlipperTruce x = new SlipperTruce();
        Due.is("who(0, 0)", x.who(0, 0), -1);
        x.batman(1, 4);
        for (int what = 0; what < 4; what++) {
            for (int who : new int[] {-1, 1, 11, 12, Integer.MIN_VALUE, Integer.MAX_VALUE}) {
                Due.is("who(" + who + ", " + what + ")", x.who(who, what), -1);
            }
        }
        for (int what : new int[] {-1, 4, Integer.MIN_VALUE, Integer.MAX_VALUE}) {
            Due.is("who(0, " + what + ")", x.who(0, what), -1);
        }
        int[] due = {1, 4, 0, 0};
        for (int what = 0; what < 4; what++) {
            Due.is("who(0, " + what + ")", x.who(0, what), due[what]);
        }
    }

    private static void bookRefused() {
        Due.says("Of line i of THE BOOK what 0 DAY, 1 what, 2 who, 3 how much. NONE if there is none such, or another "
                + "what.");
        SlipperTruce x = officers(0, 0);
        Due.is("an empty one", x.book(0, 0), -1);
        x.days(2);
        x.act(0, 0, 7);
        int[] due = {2, 0, 0, 7};
        for (int what = 0; what < 4; what++) {
            Due.is("book(0, " + what + ")", x.book(0, what), due[what]);
            for (int i : new int[] {-1, 1, 149, 150, Integer.MIN_VALUE, Integer.MAX_VALUE}) {
                Due.is("book(" + i + ", " + what + ")", x.book(i, what), -1);
            }
        }
        for (int what : new int[] {-1, 4, Integer.MIN_VALUE, Integer.MAX_VALUE}) {
            Due.is("book(0, " + what + ")", x.book(0, what), -1);
        }
        x.undo();
        Due.is("a line undone", x.book(0, 3), -1);
    }

    private static void thoseRead() {
        Due.says("4 those READ (a set)");
        SlipperTruce x = twelve();
        Due.is("nobody", x.look(4), 0);
        Due.told(x, 0, "reads 1000;", 1);
        Due.told(x, 2, "officer 0 batman 0;officer 11 batman 3;officer 4 batman 3;", 3);
        x.days(1);
        Due.is("look(4)", x.look(4), 1 + 16 + 2048);
        x.act(0, 11, 5);
        Due.is("look(4)", x.look(4), 1 + 16);
    }

    private static void lookRefused() {
        Due.says("NONE - 99999 for another what.");
        SlipperTruce x = wonWar();
        for (int what : new int[] {-1, 13, 14, Integer.MIN_VALUE, Integer.MAX_VALUE}) {
            Due.is("look(" + what + ")", x.look(what), -100000);
        }
        Due.is("look(12)", x.look(12), 1);
    }

    private static void lookAtState() {
        Due.says("(STATE as it is.)");
        SlipperTruce x = served("reads 1;");
        for (int state : new int[] {Integer.MIN_VALUE, -100000, -1, 0, Integer.MAX_VALUE}) {
            x.state(state);
            Due.is("look(7)", x.look(7), state);
            Due.is("look(7): to look is no DRAW", x.look(7), state);
        }
    }
}
