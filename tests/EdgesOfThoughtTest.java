/**
 * The document's part 4 (IN THOUGHT) but for UNDO and THE IMAGE, and promises 15 to 37:
 * each sentence that tells of an edge has a test of its own, which begins with it.
 */
public final class EdgesOfThoughtTest {
    public static void main(String[] args) {
        war();
        word();
        boots();
        men();
        numbers();
        message();
        anew();
        queens();
        within();
        partsBracketsGame();
        Due.close("EdgesOfThoughtTest");
    }

    private static void war() {
        nothingStays();
        readAtFiveHundred();
        goesDays();
        goesRefused();
        peaceDays();
    }

    private static void word() {
        digitsOfWord();
        eightGuesses();
        eachDigitOnce();
        howManyFit();
        guessNone();
        guessRefused();
        wordsRefused();
    }

    private static void boots() {
        tenBoots();
        pegBehindMoves();
        bootsRefused();
        toldState();
        movesRefused();
    }

    private static void men() {
        menInHouses();
        inWhateverMany();
        billetsRefused();
        ownPairs();
        pairsRefused();
        shots();
        lowestTerms();
        aheadRefused();
    }

    private static void numbers() {
        yearsOfFeast();
        feastRefused();
        happyNumbers();
        happyOrNot();
        happyBehind();
        happyUpTo();
        happyRefused();
    }

    private static void message() {
        twelveLetters();
        letterRefused();
        turned();
        back();
        rails();
        keyOfMessage();
        emptyKey();
        messageRefused();
    }

    private static void anew() {
        sixteenBits();
        lastPiece();
        firstOfSeveral();
        bitRefused();
        noBits();
        anewRefused();
    }

    private static void queens() {
        boards();
        sevenQueens();
        othersCountForNothing();
        queenRefused();
        queensRefused();
    }

    private static void within() {
        eightCorners();
        lastToTheFirst();
        oneCornerOrTwo();
        onAnEdge();
        lesserEnd();
        areaBelowNone();
        cornerRefused();
        withinRefused();
        fewerThanThree();
    }

    private static void partsBracketsGame() {
        partsOf();
        partsRefused();
        couples();
        notWellSet();
        bracketsRefused();
        heaps();
        mostAtFirst();
        twiceAtMost();
        ifHeCanWin();
        gameRefused();
    }

    // ---- the war in thought ----

    private static SlipperTruce served(String law) {
        SlipperTruce x = new SlipperTruce();
        x.officer(0, 0);
        x.batman(1, 0);
        Due.told(x, 2, "officer 0 batman 0;", 1);
        Due.tell(x, 0, law);
        return x;
    }

    private static void nothingStays() {
        Due.says("IN THOUGHT (nothing of it stays; no DRAWS: it is read, if reads is 500 at least).");
        SlipperTruce x = served("presses 3;reads 700;");
        Due.told(x, 1, "on 0 march 0 99;on 1 hole 0;on 2 new 0;", 3);
        x.set(4, 0, 9);
        x.state(77);
        x.days(1);
        String was = Stand.war(x);
        String thought = Stand.thoughts(x);
        for (int what = 0; what < 4; what++) {
            x.goes(60, what);
        }
        x.peace();
        x.boots(3, 1, 2);
        x.moves(1000);
        x.game(5, 5);
        Due.same("behind thoughts", Stand.war(x), was);
        Due.same("behind thoughts", Stand.thoughts(x), thought);
        Due.is("look(7)", x.look(7), 77 * 1664525 + 1013904223);
        Due.is("look(12)", x.look(12), 1);
    }

    private static void readAtFiveHundred() {
        Due.says("it is read, if reads is 500 at least");
        int[][] reads = {{0, 0}, {1, 0}, {499, 0}, {500, 1}, {501, 1}, {1000, 1}};
        for (int[] r : reads) {
            for (int state : new int[] {0, 5, Integer.MIN_VALUE, Integer.MAX_VALUE}) {
                SlipperTruce x = served("reads " + r[0] + ";");
                x.state(state);
                Due.is("goes(1, 2) by reads " + r[0], x.goes(1, 2), r[1]);
                Due.is("goes(60, 2) by reads " + r[0], x.goes(60, 2), r[1]);
            }
        }
        SlipperTruce none = new SlipperTruce();
        none.officer(0, 0);
        Due.told(none, 0, "reads 1000;", 1);
        Due.is("goes(1, 2) without a BATMAN", none.goes(1, 2), 0);
    }

    private static void goesDays() {
        Due.says("GOES for n (1 .. 60) DAYS: THE LINE, DONE of all, READ (how many) then, SLEEP of all.");
        SlipperTruce x = served("presses 1 when side=0;presses 0;rests 11;reads 500 when day=59;reads 0;");
        x.officer(1, 0);
        x.set(1, 1, 99);
        Due.told(x, 1, "on 0 march 0 99;on 59 march 0 99;on 59 march 1 99;on 60 march 1 99;", 4);
        // the first presses 1 each DAY, as he sleeps enough, and 10 more with each plan; the other one none but so
        int[] one = {11, 1, 0, 51 + 89};
        int[] sixty = {60 + 20 - 10, 3, 1, 99 + 0};
        for (int what = 0; what < 4; what++) {
            Due.is("goes(1, " + what + ")", x.goes(1, what), one[what]);
            Due.is("goes(60, " + what + ")", x.goes(60, what), sixty[what]);
        }
        Due.is("goes(59, 0)", x.goes(59, 0), 69);
        Due.is("goes(59, 1)", x.goes(59, 1), 1);
        Due.is("goes(59, 2)", x.goes(59, 2), 0);
        x.days(1);
        Due.is("goes(59, 0) of the DAY behind it", x.goes(59, 0), 70);
        Due.is("goes(60, 1) of the DAY behind it", x.goes(60, 1), 4);
        SlipperTruce late = served("presses 1;rests 10;");
        for (int i = 0; i < 166; i++) {
            late.days(60);
            late.set(5, 0, 0);
        }
        late.days(39);
        Due.is("DAY", late.look(5), 9999);
        late.set(5, 0, 0);
        Due.is("goes(60, 0) of DAY 9999, as days() alone has an end there", late.goes(60, 0), 60);
        Due.is("goes(1, 0) of an empty war", new SlipperTruce().goes(1, 0), 0);
    }

    private static void goesRefused() {
        Due.says("NONE - 999 if one can't be, or another what.");
        SlipperTruce x = served("presses 1;");
        for (int n : new int[] {0, -1, 61, Integer.MIN_VALUE, Integer.MAX_VALUE}) {
            for (int what = 0; what < 4; what++) {
                Due.is("goes(" + n + ", " + what + ")", x.goes(n, what), -1000);
            }
        }
        for (int what : new int[] {-1, 4, Integer.MIN_VALUE, Integer.MAX_VALUE}) {
            Due.is("goes(1, " + what + ")", x.goes(1, what), -1000);
            Due.is("goes(60, " + what + ")", x.goes(60, what), -1000);
        }
        Due.is("goes(1, 0)", x.goes(1, 0), 1);
        Due.is("goes(60, 0)", x.goes(60, 0), 60);
    }

    private static void peaceDays() {
        Due.says("PEACE: behind how many DAYS it is WON (0: it is; NONE: not within 60).");
        SlipperTruce x = served("presses 1;reads 0;");
        int[][] lines = {{98, 1}, {97, 2}, {40, 59}, {39, 60}, {38, -1}, {0, -1}, {-98, -1}};
        for (int[] line : lines) {
            x.set(5, 0, line[0]);
            Due.is("peace() from " + line[0], x.peace(), line[1]);
        }
        x.set(5, 0, 97);
        x.days(1);
        Due.is("peace() a DAY ahead", x.peace(), 1);
        x.days(1);
        Due.is("peace(), WON", x.peace(), 0);
        x.days(1);
        Due.is("peace(), WON since", x.peace(), 0);
        x.undo();
        x.undo();
        Due.is("peace(), not WON any more", x.peace(), 1);
        SlipperTruce down = new SlipperTruce();
        down.officer(1, 9);
        down.set(5, 0, -89);
        Due.is("peace() downwards", down.peace(), 2);
        Due.is("peace() of nobody", new SlipperTruce().peace(), -1);
    }

    // ---- WORD ----

    private static void digitsOfWord() {
        Due.says("WORD: the word of the night is four digits 0 .. 5 (they may be alike)");
        SlipperTruce x = new SlipperTruce();
        Due.is("words(0)", x.words(0), 6 * 6 * 6 * 6);
        for (int row : new int[] {0, 5, 50, 500, 5000, 5555, 1111, 4321}) {
            Due.is("guess(" + row + ", 4, 0)", x.guess(row, 4, 0), 1);
            Due.is("words(0)", x.words(0), 1);
            Due.is("words(1)", x.words(1), row);
            x.guess(-1, 0, 0);
        }
        for (int row : new int[] {6, 60, 600, 6000, 9, 90, 900, 9000, 5556, 5560, 5600, 7, 10000, 55555, 9999}) {
            Due.is("guess(" + row + ", 4, 0)", x.guess(row, 4, 0), -1);
        }
        Due.is("words(0)", x.words(0), 1296);
    }

    private static void eightGuesses() {
        Due.says("up to 8 told guesses");
        SlipperTruce x = new SlipperTruce();
        for (int i = 1; i <= 7; i++) {
            Due.is("guess", x.guess(5, 3, 0), i);
        }
        Due.is("words(0)", x.words(0), 20);
        Due.is("the eighth", x.guess(0, 4, 0), 8);
        Due.is("the eighth counts: words(0)", x.words(0), 1);
        Due.is("the eighth counts: words(1)", x.words(1), 0);
        Due.is("the ninth", x.guess(1, 4, 0), -1);
        Due.is("the ninth counts for nothing", x.words(0), 1);
    }

    private static void eachDigitOnce() {
        Due.says("with how many stood right and how many were right but stood wrong (each digit counted once)");
        int[][] rows = {{1122, 0, 0, 256, 0}, {1122, 4, 0, 1, 1122}, {1122, 0, 4, 1, 2211}, {1122, 3, 0, 20, 122},
            {1122, 3, 1, 0, -1}, {1111, 1, 0, 500, 1}, {1111, 0, 1, 0, -1}, {1111, 2, 0, 150, 11}, {0, 0, 0, 625, 1111},
            {12, 2, 2, 6 - 1, 21}};
        for (int[] r : rows) {
            SlipperTruce x = new SlipperTruce();
            x.guess(r[0], r[1], r[2]);
            String guess = r[0] + " " + r[1] + " " + r[2];
            Due.is("words(0) of " + guess, x.words(0), r[3]);
            Due.is("words(1) of " + guess, x.words(1), r[4]);
        }
        // 1123 of 1211: the first stands right; one 1 and the 2 stand wrong
        SlipperTruce x = new SlipperTruce();
        x.guess(1211, 4, 0);
        x.guess(1123, 1, 2);
        Due.is("words(0) of 1211", x.words(0), 1);
    }

    private static void howManyFit() {
        Due.says("how many words fit; the least of them as a number (NONE)");
        SlipperTruce x = new SlipperTruce();
        Due.is("words(0), none told", x.words(0), 1296);
        Due.is("words(1), none told", x.words(1), 0);
        x.guess(0, 0, 0);
        Due.is("words(0)", x.words(0), 625);
        Due.is("words(1)", x.words(1), 1111);
        x.guess(1234, 0, 0);
        Due.is("words(0)", x.words(0), 1);
        Due.is("words(1): the greatest of all", x.words(1), 5555);
        x.guess(5555, 0, 0);
        Due.is("words(0): none fits", x.words(0), 0);
        Due.is("words(1): none fits", x.words(1), -1);
    }

    private static void guessNone() {
        Due.says("(four digits 0 .. 5 as a number, 0000 is 0; NONE: none is then)");
        SlipperTruce x = new SlipperTruce();
        Due.is("guess(NONE, 0, 0) of none", x.guess(-1, 0, 0), 0);
        for (int[] rest : new int[][] {{0, 0}, {5, 5}, {-1, -1}, {Integer.MIN_VALUE, Integer.MAX_VALUE}}) {
            for (int i = 1; i <= 8; i++) {
                Due.is("guess(0, 4, 0)", x.guess(0, 4, 0), i);
            }
            Due.is("words(1)", x.words(1), 0);
            Due.is("guess(NONE, ..)", x.guess(-1, rest[0], rest[1]), 0);
            Due.is("words(0)", x.words(0), 1296);
        }
    }

    private static void guessRefused() {
        Due.says("NONE if one can't be (right and wrong together 0 .. 4), or there are eight.");
        SlipperTruce x = new SlipperTruce();
        for (int right = -1; right <= 5; right++) {
            for (int wrong = -1; wrong <= 5; wrong++) {
                boolean can = right >= 0 && wrong >= 0 && right + wrong <= 4;
                Due.is("guess(1234, " + right + ", " + wrong + ")", x.guess(1234, right, wrong), can ? 1 : -1);
                x.guess(-1, 0, 0);
            }
        }
        int[][] far = {{Integer.MAX_VALUE, Integer.MAX_VALUE}, {Integer.MIN_VALUE, Integer.MIN_VALUE},
            {Integer.MAX_VALUE, Integer.MIN_VALUE}, {Integer.MIN_VALUE, Integer.MAX_VALUE}, {4, Integer.MAX_VALUE},
            {Integer.MIN_VALUE, 0}, {0, Integer.MIN_VALUE}, {-2147483644, -2147483648}};
        for (int[] f : far) {
            Due.is("guess(1234, " + f[0] + ", " + f[1] + ")", x.guess(1234, f[0], f[1]), -1);
        }
        for (int row : new int[] {-2, -5555, 6, 5556, 10000, Integer.MIN_VALUE, Integer.MAX_VALUE}) {
            Due.is("guess(" + row + ", 0, 0)", x.guess(row, 0, 0), -1);
        }
        Due.is("words(0): nothing was told", x.words(0), 1296);
        for (int i = 1; i <= 8; i++) {
            x.guess(0, 0, 0);
        }
        Due.is("there are eight", x.guess(0, 0, 0), -1);
        Due.is("there are eight", x.guess(9, 9, 9), -1);
        Due.is("words(0)", x.words(0), 625);
    }

    private static void wordsRefused() {
        Due.says("WORD what 0 how many, 1 the least. NONE, too, for another what.");
        SlipperTruce x = new SlipperTruce();
        for (int what : new int[] {-1, 2, Integer.MIN_VALUE, Integer.MAX_VALUE}) {
            Due.is("words(" + what + ")", x.words(what), -1);
        }
        Due.is("words(0)", x.words(0), 1296);
        Due.is("words(1)", x.words(1), 0);
    }

    // ---- BOOTS ----

    private static void tenBoots() {
        Due.says("BOOTS: n (1 .. 10) boots");
        for (int n = 1; n <= 10; n++) {
            SlipperTruce x = new SlipperTruce();
            int last = (int) Math.pow(2, n) - 1;
            for (int i = 0; i < n; i++) {
                Due.is("boots(" + n + ", " + i + ", 0)", x.boots(n, i, 0), 0);
                Due.is("boots(" + n + ", " + i + ", " + last + ")", x.boots(n, i, last), 2);
            }
            Due.is("the first move of " + n, x.boots(n, 0, 1), n % 2 == 0 ? 1 : 2);
        }
        SlipperTruce x = new SlipperTruce();
        for (int n : new int[] {0, -1, 11, Integer.MIN_VALUE, Integer.MAX_VALUE}) {
            Due.is("boots(" + n + ", 0, 0)", x.boots(n, 0, 0), -1);
        }
    }

    private static void pegBehindMoves() {
        Due.says("the peg of boot i (0 the least) behind k moves");
        SlipperTruce x = new SlipperTruce();
        int[][] three = {{0, 0, 0}, {2, 0, 0}, {2, 1, 0}, {1, 1, 0}, {1, 1, 2}, {0, 1, 2}, {0, 2, 2}, {2, 2, 2}};
        for (int k = 0; k < 8; k++) {
            for (int i = 0; i < 3; i++) {
                Due.is("boots(3, " + i + ", " + k + ")", x.boots(3, i, k), three[k][i]);
            }
        }
        for (int i = 0; i < 9; i++) {
            Due.is("half the way, boot " + i, x.boots(10, i, 511), 1);
            Due.is("half the way and one, boot " + i, x.boots(10, i, 512), 1);
        }
        Due.is("half the way, the greatest", x.boots(10, 9, 511), 0);
        Due.is("half the way and one, the greatest", x.boots(10, 9, 512), 2);
    }

    private static void bootsRefused() {
        Due.says("BOOTS: the peg of boot i behind k moves. NONE if one can't be (k 0 .. 2 to the n, less 1).");
        SlipperTruce x = new SlipperTruce();
        for (int n = 1; n <= 10; n++) {
            int moves = (int) Math.pow(2, n);
            Due.is("boots(" + n + ", 0, " + moves + ")", x.boots(n, 0, moves), -1);
            Due.is("boots(" + n + ", 0, -1)", x.boots(n, 0, -1), -1);
            Due.is("boots(" + n + ", -1, 0)", x.boots(n, -1, 0), -1);
            Due.is("boots(" + n + ", " + n + ", 0)", x.boots(n, n, 0), -1);
        }
        for (int far : Due.FAR) {
            Due.is("boots(" + far + ", 0, 0)", x.boots(far, 0, 0), -1);
            Due.is("boots(10, " + far + ", 0)", x.boots(10, far, 0), -1);
            Due.is("boots(10, 0, " + far + ")", x.boots(10, 0, far), -1);
        }
    }

    private static void toldState() {
        Due.says("how many moves from a told state (a row of n digits 0 .. 2 behind a 1: of boot 0, 1, ..) to all on "
                + "peg 2");
        SlipperTruce x = new SlipperTruce();
        int[][] rows = {{10, 1}, {11, 1}, {12, 0}, {100, 3}, {102, 1}, {110, 2}, {120, 3}, {112, 1}, {121, 3}, {122, 0},
            {1000, 7}, {1222222222, 0}, {1000000000, 511}, {1200000000, 510}, {1022222222, 1}, {1111111111, 511},
            {1222222220, 256 + 255}, {1111111110, 256}, {1222222221, 256 + 255}};
        for (int[] r : rows) {
            Due.is("moves(" + r[0] + ")", x.moves(r[0]), r[1]);
        }
    }

    private static void movesRefused() {
        Due.says("BOOTS from a told state. NONE if one can't be.");
        SlipperTruce x = new SlipperTruce();
        for (int row : new int[] {0, 1, 2, 9, 13, 19, 20, 22, 99, 103, 130, 133, 200, 222, 300, 1003, 1300, 2000, 2222,
            1222222223, 1322222222, 1999999999, 2000000000, 2122222222, -1, -10, -12, -122, Integer.MIN_VALUE,
            Integer.MAX_VALUE}) {
            Due.is("moves(" + row + ")", x.moves(row), -1);
        }
    }

    // ---- BILLETS, PAIRS, AHEAD ----

    private static void menInHouses() {
        Due.says("BILLETS: n (0 .. 10) men in k (0 .. 10) houses, none empty, houses alike");
        SlipperTruce x = new SlipperTruce();
        int[][] told = {{0, 0, 1}, {0, 1, 0}, {0, 10, 0}, {1, 0, 0}, {10, 0, 0}, {1, 1, 1}, {10, 10, 1}, {10, 1, 1},
            {10, 9, 45}, {10, 2, 511}, {10, 5, 42525}, {9, 10, 0}, {2, 3, 0}, {3, 2, 3}, {4, 2, 7}};
        for (int[] t : told) {
            Due.is("billets(" + t[0] + ", " + t[1] + ")", x.billets(t[0], t[1]), t[2]);
        }
    }

    private static void inWhateverMany() {
        Due.says("in whatever many houses (k NONE)");
        SlipperTruce x = new SlipperTruce();
        int[] bell = {1, 1, 2, 5, 15, 52, 203, 877, 4140, 21147, 115975};
        for (int n = 0; n <= 10; n++) {
            Due.is("billets(" + n + ", NONE)", x.billets(n, -1), bell[n]);
        }
    }

    private static void billetsRefused() {
        Due.says("BILLETS. NONE if one can't be.");
        SlipperTruce x = new SlipperTruce();
        for (int n : new int[] {-1, 11, -2, Integer.MIN_VALUE, Integer.MAX_VALUE}) {
            Due.is("billets(" + n + ", 1)", x.billets(n, 1), -1);
            Due.is("billets(" + n + ", NONE)", x.billets(n, -1), -1);
        }
        for (int k : new int[] {-2, 11, Integer.MIN_VALUE, Integer.MAX_VALUE}) {
            Due.is("billets(0, " + k + ")", x.billets(0, k), -1);
            Due.is("billets(10, " + k + ")", x.billets(10, k), -1);
        }
    }

    private static void ownPairs() {
        Due.says("PAIRS: n (0 .. 10) men take slippers at random, a pair each: in how many ways just k (0 .. n) have "
                + "their own.");
        SlipperTruce x = new SlipperTruce();
        int[][] told = {{0, 0, 1}, {1, 0, 0}, {1, 1, 1}, {2, 0, 1}, {2, 1, 0}, {2, 2, 1}, {3, 0, 2}, {3, 1, 3},
            {10, 0, 1334961}, {10, 1, 1334960}, {10, 8, 45}, {10, 9, 0}, {10, 10, 1}};
        for (int[] t : told) {
            Due.is("pairs(" + t[0] + ", " + t[1] + ")", x.pairs(t[0], t[1]), t[2]);
        }
    }

    private static void pairsRefused() {
        Due.says("PAIRS. NONE if one can't be.");
        SlipperTruce x = new SlipperTruce();
        for (int n = 0; n <= 10; n++) {
            Due.is("pairs(" + n + ", " + (n + 1) + ")", x.pairs(n, n + 1), -1);
            Due.is("pairs(" + n + ", -1)", x.pairs(n, -1), -1);
        }
        for (int n : new int[] {-1, 11, Integer.MIN_VALUE, Integer.MAX_VALUE}) {
            Due.is("pairs(" + n + ", 0)", x.pairs(n, 0), -1);
            Due.is("pairs(" + n + ", " + n + ")", x.pairs(n, n), -1);
        }
        for (int far : Due.FAR) {
            Due.is("pairs(10, " + far + ")", x.pairs(10, far), -1);
        }
    }

    private static void shots() {
        Due.says("AHEAD: a shots of one against b of the other (0 .. 12 each, a more than b)");
        SlipperTruce x = new SlipperTruce();
        int[][] told = {{1, 0, 1}, {12, 0, 1}, {2, 1, 1}, {3, 1, 2}, {3, 2, 2}, {12, 1, 11}, {12, 4, 910},
            {12, 11, 58786}, {11, 10, 16796}};
        for (int[] t : told) {
            Due.is("ahead(" + t[0] + ", " + t[1] + ", 0)", x.ahead(t[0], t[1], 0), t[2]);
        }
        for (int n = 0; n <= 12; n++) {
            Due.is("ahead(" + n + ", " + n + ", 0)", x.ahead(n, n, 0), -1);
            Due.is("ahead(" + n + ", " + (n + 1) + ", 0)", x.ahead(n, n + 1, 0), -1);
        }
    }

    private static void lowestTerms() {
        Due.says("that by all orders as a fraction in lowest terms");
        SlipperTruce x = new SlipperTruce();
        int[][] told = {{1, 0, 1, 1}, {12, 0, 1, 1}, {2, 1, 1, 3}, {3, 1, 1, 2}, {12, 4, 1, 2}, {12, 11, 1, 23},
            {12, 8, 1, 5}, {12, 3, 3, 5}, {10, 5, 1, 3}, {5, 1, 2, 3}, {7, 2, 5, 9}};
        for (int[] t : told) {
            Due.is("ahead(" + t[0] + ", " + t[1] + ", 1)", x.ahead(t[0], t[1], 1), t[2]);
            Due.is("ahead(" + t[0] + ", " + t[1] + ", 2)", x.ahead(t[0], t[1], 2), t[3]);
        }
    }

    private static void aheadRefused() {
        Due.says("AHEAD what 0 orders, 1 above, 2 below. NONE if one can't be, or another what.");
        SlipperTruce x = new SlipperTruce();
        for (int what = 0; what < 3; what++) {
            int[][] wrong = {{13, 0}, {13, 12}, {0, 0}, {0, -1}, {1, -1}, {12, 12}, {5, 5}, {4, 5}, {12, 13}, {-1, -2}};
            for (int[] w : wrong) {
                Due.is("ahead(" + w[0] + ", " + w[1] + ", " + what + ")", x.ahead(w[0], w[1], what), -1);
            }
            for (int far : Due.FAR) {
                Due.is("ahead(" + far + ", 0, " + what + ")", x.ahead(far, 0, what), -1);
                Due.is("ahead(12, " + far + ", " + what + ")", x.ahead(12, far, what), -1);
            }
        }
        for (int what : new int[] {-1, 3, Integer.MIN_VALUE, Integer.MAX_VALUE}) {
            Due.is("ahead(5, 1, " + what + ")", x.ahead(5, 1, what), -1);
        }
    }

    // ---- FEAST, HAPPY ----

    private static void yearsOfFeast() {
        Due.says("FEAST of year y (1600 .. 2400)");
        SlipperTruce x = new SlipperTruce();
        // the first and the last year, the earliest and the latest day, years where M is 1, or where it nearly is
        int[][] told = {{1600, 4, 2}, {2400, 4, 16}, {1818, 3, 22}, {1943, 4, 25}, {1954, 4, 18}, {1981, 4, 19},
            {1609, 4, 19}, {1707, 4, 24}, {1734, 4, 25}, {1886, 4, 25}, {2106, 4, 18}, {1700, 4, 11}, {1899, 4, 2}, {1900, 4, 15}, {2000, 4, 23}, {2013, 3, 31}, {2018, 4, 1}};
        for (int[] t : told) {
            Due.is("feast(" + t[0] + ", 0)", x.feast(t[0], 0), t[1]);
            Due.is("feast(" + t[0] + ", 1)", x.feast(t[0], 1), t[2]);
        }
        Due.is("feast(1599, 0)", x.feast(1599, 0), -1);
        Due.is("feast(2401, 0)", x.feast(2401, 0), -1);
    }

    private static void feastRefused() {
        Due.says("FEAST what 0 month, 1 day. NONE if y can't be, or another what.");
        SlipperTruce x = new SlipperTruce();
        for (int y : new int[] {1599, 2401, 0, -1, -1600, Integer.MIN_VALUE, Integer.MAX_VALUE}) {
            Due.is("feast(" + y + ", 0)", x.feast(y, 0), -1);
            Due.is("feast(" + y + ", 1)", x.feast(y, 1), -1);
        }
        for (int what : new int[] {-1, 2, Integer.MIN_VALUE, Integer.MAX_VALUE}) {
            Due.is("feast(2000, " + what + ")", x.feast(2000, what), -1);
        }
    }

    private static void happyNumbers() {
        Due.says("HAPPY: n (1 .. 99999)");
        SlipperTruce x = new SlipperTruce();
        // 99999, 405, 41, 17, 50, 25, 29, 85, 89, 145, 42, 20, 4
        int[][] told = {{1, 1, 0}, {10000, 1, 1}, {99999, 0, 12}};
        for (int[] t : told) {
            Due.is("happy(" + t[0] + ", 0)", x.happy(t[0], 0), t[1]);
            Due.is("happy(" + t[0] + ", 1)", x.happy(t[0], 1), t[2]);
        }
        Due.is("happy(0, 0)", x.happy(0, 0), -1);
        Due.is("happy(100000, 0)", x.happy(100000, 0), -1);
    }

    private static void happyOrNot() {
        Due.says("1, if it comes to 1, else 0");
        SlipperTruce x = new SlipperTruce();
        int[] happy = {1, 7, 10, 13, 19, 23, 28, 31, 32, 44, 49};
        int next = 0;
        for (int n = 1; n <= 49; n++) {
            boolean is = happy[next] == n;
            next += is ? 1 : 0;
            Due.is("happy(" + n + ", 0)", x.happy(n, 0), is ? 1 : 0);
        }
    }

    private static void happyBehind() {
        Due.says("behind how many times it first is 1 or 4 (n itself: 0)");
        SlipperTruce x = new SlipperTruce();
        // 7, 49, 97, 130, 10, 1; 16, 37, 58, 89, 145, 42, 20, 4
        int[][] told = {{1, 0}, {4, 0}, {2, 1}, {10, 1}, {7, 5}, {20, 1}, {16, 7}, {40, 8}};
        for (int[] t : told) {
            Due.is("happy(" + t[0] + ", 1)", x.happy(t[0], 1), t[1]);
        }
    }

    private static void happyUpTo() {
        Due.says("how many of 1 .. n (n up to 999) come to 1");
        SlipperTruce x = new SlipperTruce();
        int[][] told = {{1, 1}, {2, 1}, {6, 1}, {7, 2}, {9, 2}, {10, 3}, {49, 11}, {100, 20}, {999, 142}, {1000, -1},
            {1001, -1}, {99999, -1}};
        for (int[] t : told) {
            Due.is("happy(" + t[0] + ", 2)", x.happy(t[0], 2), t[1]);
        }
        Due.is("happy(1000, 0)", x.happy(1000, 0), 1);
    }

    private static void happyRefused() {
        Due.says("HAPPY what 0 whether, 1 behind how many, 2 how many. NONE if n can't be, or another what.");
        SlipperTruce x = new SlipperTruce();
        for (int n : new int[] {0, -1, -7, 100000, Integer.MIN_VALUE, Integer.MAX_VALUE}) {
            for (int what = 0; what < 3; what++) {
                Due.is("happy(" + n + ", " + what + ")", x.happy(n, what), -1);
            }
        }
        for (int what : new int[] {-1, 3, Integer.MIN_VALUE, Integer.MAX_VALUE}) {
            Due.is("happy(7, " + what + ")", x.happy(7, what), -1);
        }
    }

    // ---- MESSAGE ----

    private static SlipperTruce message(int[] letters, int... key) {
        SlipperTruce x = new SlipperTruce();
        for (int v : letters) {
            x.letter(0, v);
        }
        for (int v : key) {
            x.letter(1, v);
        }
        return x;
    }

    private static void twelveLetters() {
        Due.says("MESSAGE: a told row of up to 12 letters 0 .. 25 and a told key of up to 4");
        SlipperTruce x = new SlipperTruce();
        for (int i = 1; i <= 12; i++) {
            Due.is("letter(0, ..)", x.letter(0, i == 12 ? 25 : i - 1), i);
        }
        Due.is("the thirteenth", x.letter(0, 3), -1);
        Due.is("message(0, 11)", x.message(0, 11), 25);
        Due.is("message(0, 12)", x.message(0, 12), -1);
        for (int i = 1; i <= 4; i++) {
            Due.is("letter(1, ..)", x.letter(1, i == 4 ? 25 : 0), i);
        }
        Due.is("the fifth", x.letter(1, 3), -1);
        Due.is("message(0, 3)", x.message(0, 3), 2);
        Due.is("message(0, 4)", x.message(0, 4), 4);
        Due.is("message(0, 11)", x.message(0, 11), 24);
    }

    private static void letterRefused() {
        Due.says("A letter of the message (which 0), the key (1) (v NONE: it is empty then): how many; NONE if one "
                + "can't be, or there are twelve, four.");
        SlipperTruce x = new SlipperTruce();
        for (int which = 0; which < 2; which++) {
            Due.is("letter(" + which + ", NONE) of none", x.letter(which, -1), 0);
            for (int v : new int[] {-2, 26, Integer.MIN_VALUE, Integer.MAX_VALUE}) {
                Due.is("letter(" + which + ", " + v + ")", x.letter(which, v), -1);
            }
            int most = which == 0 ? 12 : 4;
            for (int i = 1; i <= most; i++) {
                Due.is("letter(" + which + ", 1)", x.letter(which, 1), i);
            }
            Due.is("one more", x.letter(which, 1), -1);
            Due.is("one more that can't be", x.letter(which, 26), -1);
        }
        for (int which : new int[] {-1, 2, Integer.MIN_VALUE, Integer.MAX_VALUE}) {
            Due.is("letter(" + which + ", 1)", x.letter(which, 1), -1);
            Due.is("letter(" + which + ", NONE)", x.letter(which, -1), -1);
        }
        Due.is("message(0, 11)", x.message(0, 11), 2);
        Due.is("letter(1, NONE)", x.letter(1, -1), 0);
        Due.is("the message stays", x.message(0, 11), 1);
        Due.is("letter(1, 5)", x.letter(1, 5), 1);
        Due.is("letter(0, NONE)", x.letter(0, -1), 0);
        Due.is("message(0, 0)", x.message(0, 0), -1);
        Due.is("letter(0, 0)", x.letter(0, 0), 1);
        Due.is("the key stays", x.message(0, 0), 5);
    }

    private static void turned() {
        Due.says("TURNED: letter i and the key's letter (over and over) modulo 26");
        SlipperTruce x = message(new int[] {0, 25, 25, 25, 1, 25, 0, 0, 2, 2, 2, 2}, 0, 1, 25, 0);
        int[] due = {0, 0, 24, 25, 1, 0, 25, 0, 2, 3, 1, 2};
        for (int i = 0; i < 12; i++) {
            Due.is("message(0, " + i + ")", x.message(0, i), due[i]);
        }
        SlipperTruce one = message(new int[] {24, 0, 1}, 3);
        SlipperTruce more = message(new int[] {24}, 3, 9, 9, 9);
        Due.is("by one", one.message(0, 0), 1);
        Due.is("by one, over again", one.message(0, 2), 4);
        Due.is("by a key longer than it", more.message(0, 0), 1);
        Due.is("no letter more", more.message(0, 1), -1);
    }

    private static void back() {
        Due.says("BACK: less");
        SlipperTruce x = message(new int[] {0, 0, 0, 25, 1, 25, 24, 0, 2}, 0, 1, 25, 0);
        int[] due = {0, 25, 1, 25, 1, 24, 25, 0, 2};
        for (int i = 0; i < due.length; i++) {
            Due.is("message(1, " + i + ")", x.message(1, i), due[i]);
        }
    }

    private static void rails() {
        Due.says("down to the last of k (1 .. 6), up again, and so on");
        int[] letters = {0, 1, 2, 3, 4, 5, 6, 7, 8, 9, 10, 11};
        int[][] due = {{0, 1, 2, 3, 4, 5, 6, 7, 8, 9, 10, 11}, {0, 2, 4, 6, 8, 10, 1, 3, 5, 7, 9, 11},
            {0, 4, 8, 1, 3, 5, 7, 9, 11, 2, 6, 10}, {0, 6, 1, 5, 7, 11, 2, 4, 8, 10, 3, 9},
            {0, 8, 1, 7, 9, 2, 6, 10, 3, 5, 11, 4}, {0, 10, 1, 9, 11, 2, 8, 3, 7, 4, 6, 5}};
        SlipperTruce x = message(letters, 1);
        for (int k = 1; k <= 6; k++) {
            for (int i = 0; i < 12; i++) {
                Due.is("message(" + (10 + k) + ", " + i + ")", x.message(10 + k, i), due[k - 1][i]);
            }
        }
        for (int i = 0; i < 12; i += 5) {
            Due.is("message(10, " + i + ")", x.message(10, i), -1);
            Due.is("message(17, " + i + ")", x.message(17, i), -1);
        }
        SlipperTruce few = message(new int[] {7, 8, 9});
        SlipperTruce one = message(new int[] {7});
        for (int k = 3; k <= 6; k++) {
            for (int i = 0; i < 3; i++) {
                Due.is("as many rails as letters, or more", few.message(10 + k, i), 7 + i);
            }
            Due.is("one letter", one.message(10 + k, 0), 7);
            Due.is("no letter", one.message(10 + k, 1), -1);
        }
    }

    private static void keyOfMessage() {
        Due.says("KEY: the last letter less the first one modulo 26 (none told: NONE)");
        Due.is("none told", new SlipperTruce().message(2, 0), -1);
        Due.is("none told but a key", message(new int[0], 3, 4).message(2, 0), -1);
        Due.is("one", message(new int[] {9}).message(2, 0), 0);
        Due.is("up", message(new int[] {1, 25, 4}).message(2, 0), 3);
        Due.is("down", message(new int[] {25, 9, 0}).message(2, 0), 1);
        Due.is("as far as can be", message(new int[] {0, 25}, 7).message(2, 0), 25);
        SlipperTruce x = message(new int[] {5, 0, 0, 0, 0, 0, 0, 0, 0, 0, 0, 4});
        for (int i : new int[] {0, 11, 12, -1, Integer.MIN_VALUE, Integer.MAX_VALUE}) {
            Due.is("message(2, " + i + ")", x.message(2, i), 25);
        }
        x.letter(0, -1);
        Due.is("none any more", x.message(2, 0), -1);
    }

    private static void emptyKey() {
        Due.says("0 TURNED, 1 BACK (an empty key: as it is), 2 KEY (i not asked)");
        SlipperTruce x = message(new int[] {0, 25, 7});
        int[] due = {0, 25, 7};
        for (int turn = 0; turn < 2; turn++) {
            for (int i = 0; i < 3; i++) {
                Due.is("message(0, " + i + ")", x.message(0, i), due[i]);
                Due.is("message(1, " + i + ")", x.message(1, i), due[i]);
            }
            x.letter(1, 5);
            x.letter(1, -1);
        }
    }

    private static void messageRefused() {
        Due.says("10 + k RAILS: letter i. NONE if there is none such, or another what.");
        SlipperTruce x = message(new int[] {3, 4}, 5, 6, 7, 8);
        SlipperTruce none = message(new int[0], 5);
        for (int what : new int[] {0, 1, 11, 12, 16}) {
            for (int i : new int[] {-1, 2, 3, 12, Integer.MIN_VALUE, Integer.MAX_VALUE}) {
                Due.is("message(" + what + ", " + i + ")", x.message(what, i), -1);
            }
            Due.is("message(" + what + ", 0) of none", none.message(what, 0), -1);
        }
        for (int what : new int[] {-1, 3, 4, 9, 10, 17, 18, Integer.MIN_VALUE, Integer.MAX_VALUE}) {
            Due.is("message(" + what + ", 0)", x.message(what, 0), -1);
            Due.is("message(" + what + ", 1)", x.message(what, 1), -1);
        }
    }

    // ---- ANEW ----

    private static SlipperTruce bits(String row) {
        SlipperTruce x = new SlipperTruce();
        for (int i = 0; i < row.length(); i++) {
            x.bit(row.charAt(i) - '0');
        }
        return x;
    }

    private static void anewIs(String row, int pieces, int like, int where) {
        SlipperTruce x = bits(row);
        Due.is("anew(0) of " + row, x.anew(0), pieces);
        Due.is("anew(1) of " + row, x.anew(1), like);
        Due.is("anew(2) of " + row, x.anew(2), where);
    }

    private static void sixteenBits() {
        Due.says("ANEW: a told row of up to 16 bits");
        SlipperTruce x = new SlipperTruce();
        for (int i = 1; i <= 16; i++) {
            Due.is("bit", x.bit(i % 2), i);
        }
        Due.is("the seventeenth", x.bit(0), -1);
        Due.is("anew(1)", x.anew(1), 15);
        Due.is("anew(2)", x.anew(2), 0);
        // 1|0|10|101|01|010|1010
        Due.is("anew(0)", x.anew(0), 7);
        anewIs("0000000000000000", 6, 16, 0);
        anewIs("0000000000000001", 6, 15, 0);
        anewIs("1000000000000000", 6, 15, 1);
    }

    private static void lastPiece() {
        Due.says("(the last one is what is left, if that is one of them)");
        anewIs("0", 1, 1, 0);
        anewIs("00", 2, 2, 0);
        anewIs("000", 2, 3, 0);
        anewIs("0000", 3, 4, 0);
        anewIs("01", 2, 1, 0);
        anewIs("010", 3, 3, 0);
        anewIs("0101", 3, 3, 0);
        anewIs("01010", 4, 5, 0);
        anewIs("01011", 4, 3, 0);
        anewIs("0101101", 5, 6, 1);
        anewIs("011000111", 6, 7, 1);
        anewIs("0001101", 5, 4, 2);
        anewIs("000110", 4, 4, 2);
    }

    private static void firstOfSeveral() {
        Due.says("LIKE: the longest piece of it that reads alike both ways; where it begins (of several the first)");
        anewIs("10", 2, 1, 0);
        anewIs("0011", 3, 2, 0);
        anewIs("001011", 3, 3, 1);
        anewIs("0100", 3, 3, 0);
        anewIs("0010", 3, 3, 1);
        anewIs("011", 3, 2, 1);
        // 0|1|10|100|11|00|101|10
        anewIs("0110100110010110", 8, 16, 0);
    }

    private static void bitRefused() {
        Due.says("A bit for ANEW (NONE: it is empty then): how many; NONE if one can't be, or there are sixteen.");
        SlipperTruce x = new SlipperTruce();
        Due.is("bit(NONE) of none", x.bit(-1), 0);
        for (int v : new int[] {-2, 2, Integer.MIN_VALUE, Integer.MAX_VALUE}) {
            Due.is("bit(" + v + ")", x.bit(v), -1);
        }
        for (int i = 1; i <= 16; i++) {
            Due.is("bit", x.bit(0), i);
        }
        Due.is("there are sixteen", x.bit(1), -1);
        Due.is("there are sixteen", x.bit(2), -1);
        Due.is("anew(1)", x.anew(1), 16);
        Due.is("bit(NONE)", x.bit(-1), 0);
        Due.is("bit(1)", x.bit(1), 1);
        Due.is("anew(0)", x.anew(0), 1);
        Due.is("anew(1)", x.anew(1), 1);
    }

    private static void noBits() {
        Due.says("ANEW what 0 how many pieces, 1 LIKE, 2 where (none told: 0, 0, NONE).");
        anewIs("", 0, 0, -1);
        SlipperTruce x = bits("0110");
        x.bit(-1);
        Due.is("anew(0) of none any more", x.anew(0), 0);
        Due.is("anew(1) of none any more", x.anew(1), 0);
        Due.is("anew(2) of none any more", x.anew(2), -1);
    }

    private static void anewRefused() {
        Due.says("2 where (none told: 0, 0, NONE). NONE, too, for another what.");
        for (String row : new String[] {"", "0110"}) {
            SlipperTruce x = bits(row);
            for (int what : new int[] {-1, 3, Integer.MIN_VALUE, Integer.MAX_VALUE}) {
                Due.is("anew(" + what + ") of " + row, x.anew(what), -1);
            }
        }
    }

    // ---- QUEENS ----

    /** Queens told as x and y, digit by digit. */
    private static SlipperTruce queens(int... told) {
        SlipperTruce x = new SlipperTruce();
        for (int i = 0; i < told.length; i++) {
            Due.is("queen", x.queen(told[i] / 10, told[i] % 10), i + 1);
        }
        return x;
    }

    private static void boards() {
        Due.says("QUEENS on n by n (1 .. 7), none on a row, a column, a slant with another one");
        int[] due = {-1, 1, 0, 0, 2, 10, 4, 40, -1};
        SlipperTruce x = new SlipperTruce();
        for (int n = 0; n <= 8; n++) {
            Due.is("queens(" + n + ")", x.queens(n), due[n]);
        }
        int[][] clashes = {{0, 10}, {0, 60}, {0, 1}, {0, 6}, {0, 11}, {0, 66}, {6, 60}, {5, 14}, {55, 64}, {33, 24},
            {33, 42}};
        for (int[] c : clashes) {
            Due.is("queens(7) with " + c[0] + " and " + c[1], queens(c).queens(7), 0);
        }
        Due.is("queens(4) with 01", queens(1).queens(4), 1);
        Due.is("queens(4) with 02", queens(2).queens(4), 1);
        Due.is("queens(4) with 00", queens(0).queens(4), 0);
    }

    private static void sevenQueens() {
        Due.says("told ones, up to 7 (x, y 0 .. 6)");
        SlipperTruce x = queens(0, 12, 24, 36, 41, 53, 65);
        Due.is("seven that stand", x.queens(7), 1);
        Due.is("the eighth", x.queen(6, 6), -1);
        Due.is("the eighth counts for nothing", x.queens(7), 1);
        SlipperTruce corners = queens(0, 6, 60, 66);
        Due.is("queens(7)", corners.queens(7), 0);
        Due.is("the seventh counts", queens(1, 13, 20, 32, 44, 46, 66).queens(7), 0);
    }

    private static void othersCountForNothing() {
        Due.says("in how many ways n stand with all told that are on the board among them (others count for nothing)");
        SlipperTruce x = queens(4, 40, 44, 66);
        int[] due = {-1, 1, 0, 0, 2};
        for (int n = 1; n <= 4; n++) {
            Due.is("queens(" + n + "), none of them is on it", x.queens(n), due[n]);
        }
        Due.is("queens(5), three of them are on it", x.queens(5), 0);
        SlipperTruce y = queens(1, 13, 20, 32, 64, 65);
        Due.is("queens(4), four of them are on it", y.queens(4), 1);
        Due.is("queens(6)", y.queens(6), 0);
        Due.is("queens(5) with 44 alone", queens(44).queens(5), 2);
        Due.is("queens(4) with 44 alone", queens(44).queens(4), 2);
        Due.is("queens(4) with 14 and 41", queens(14, 41).queens(4), 2);
        Due.is("queens(1) with 0", queens(0).queens(1), 1);
    }

    private static void queenRefused() {
        Due.says("A queen (x NONE: none is then): how many; NONE if one can't be (told already), or there are seven.");
        SlipperTruce x = new SlipperTruce();
        Due.is("queen(NONE, 0) of none", x.queen(-1, 0), 0);
        int[][] wrong = {{-2, 0}, {7, 0}, {0, -1}, {0, 7}, {7, 7}, {6, 7}, {7, 6}};
        for (int[] w : wrong) {
            Due.is("queen(" + w[0] + ", " + w[1] + ")", x.queen(w[0], w[1]), -1);
        }
        for (int far : Due.FAR) {
            Due.is("queen(" + far + ", 0)", x.queen(far, 0), -1);
            Due.is("queen(0, " + far + ")", x.queen(0, far), -1);
        }
        Due.is("queens(7): nothing was told", x.queens(7), 40);
        for (int y : new int[] {0, 7, -1, Integer.MIN_VALUE, Integer.MAX_VALUE}) {
            for (int i = 0; i < 7; i++) {
                Due.is("queen(" + i + ", 6)", x.queen(i, 6), i + 1);
                Due.is("told already", x.queen(i, 6), -1);
                Due.is("told already", x.queen(0, 6), -1);
            }
            Due.is("there are seven", x.queen(0, 0), -1);
            Due.is("there are seven", x.queen(7, 0), -1);
            Due.is("queens(7)", x.queens(7), 0);
            Due.is("queen(NONE, " + y + ")", x.queen(-1, y), 0);
            Due.is("queens(7)", x.queens(7), 40);
        }
    }

    private static void queensRefused() {
        Due.says("QUEENS. NONE if n can't be.");
        SlipperTruce x = queens(33);
        for (int n : new int[] {0, -1, 8, Integer.MIN_VALUE, Integer.MAX_VALUE}) {
            Due.is("queens(" + n + ")", x.queens(n), -1);
        }
    }

    // ---- WITHIN ----

    private static SlipperTruce way(int... corners) {
        SlipperTruce x = new SlipperTruce();
        for (int i = 0; i + 1 < corners.length; i += 2) {
            Due.is("corner", x.corner(corners[i], corners[i + 1]), i / 2 + 1);
        }
        return x;
    }

    private static void eightCorners() {
        Due.says("WITHIN: a told way round of up to 8 corners (x, y -50 .. 50)");
        SlipperTruce x = way(-50, -50, 0, -50, 50, -50, 50, 0, 50, 50, 0, 50, -50, 50, -50, 0);
        Due.is("the ninth", x.corner(0, 0), -1);
        Due.is("area()", x.area(), 20000);
        for (int a = -50; a <= 50; a += 25) {
            for (int b = -50; b <= 50; b += 25) {
                boolean on = Math.abs(a) == 50 || Math.abs(b) == 50;
                Due.is("within(" + a + ", " + b + ")", x.within(a, b), on ? 2 : 1);
            }
        }
        SlipperTruce seven = way(-50, -50, 0, -50, 50, -50, 50, 0, 50, 50, 0, 50, -50, 50);
        Due.is("the eighth is its last", seven.corner(49, 50), 8);
        Due.is("within(-49, 50)", seven.within(-49, 50), 2);
        Due.is("within(-50, -49)", seven.within(-50, -49), 0);
    }

    private static void lastToTheFirst() {
        Due.says("each joined to the next one, the last one to the first");
        SlipperTruce x = way(0, 0, 6, 0, 6, 6, 0, 6);
        int[][] on = {{0, 3}, {3, 0}, {6, 3}, {3, 6}};
        for (int[] p : on) {
            Due.is("within(" + p[0] + ", " + p[1] + ")", x.within(p[0], p[1]), 2);
        }
        Due.is("left of the last edge", x.within(-1, 3), 0);
        Due.is("right of the last edge", x.within(1, 3), 1);
        Due.is("no edge through it", x.within(3, 3), 1);
        Due.is("area()", x.area(), 72);
    }

    private static void oneCornerOrTwo() {
        Due.says("(one corner: to itself; two: there and back)");
        SlipperTruce none = new SlipperTruce();
        Due.is("none: within(0, 0)", none.within(0, 0), 0);
        SlipperTruce one = way(3, -4);
        Due.is("one: within(3, -4)", one.within(3, -4), 2);
        int[][] beside = {{2, -4}, {4, -4}, {3, -3}, {3, -5}, {0, 0}, {-3, 4}};
        for (int[] b : beside) {
            Due.is("one: within(" + b[0] + ", " + b[1] + ")", one.within(b[0], b[1]), 0);
        }
        SlipperTruce two = way(2, 2, 6, 4);
        for (int[] on : new int[][] {{2, 2}, {4, 3}, {6, 4}}) {
            Due.is("two: within(" + on[0] + ", " + on[1] + ")", two.within(on[0], on[1]), 2);
        }
        for (int[] off : new int[][] {{0, 1}, {8, 5}, {3, 3}, {5, 3}, {0, 2}, {0, 3}, {0, 4}, {3, 2}}) {
            Due.is("two: within(" + off[0] + ", " + off[1] + ")", two.within(off[0], off[1]), 0);
        }
        SlipperTruce level = way(-2, 5, 2, 5);
        Due.is("level: within(0, 5)", level.within(0, 5), 2);
        Due.is("level: within(-3, 5)", level.within(-3, 5), 0);
        Due.is("level: within(3, 5)", level.within(3, 5), 0);
        SlipperTruce upright = way(5, -2, 5, 2);
        Due.is("upright: within(5, 0)", upright.within(5, 0), 2);
        Due.is("upright: within(5, 3)", upright.within(5, 3), 0);
        Due.is("upright: within(5, -3)", upright.within(5, -3), 0);
        Due.is("upright: within(0, 0)", upright.within(0, 0), 0);
    }

    private static void onAnEdge() {
        Due.says("of a point: 2, if it is on such an edge");
        SlipperTruce x = way(0, 0, 8, 4, 0, 8);
        int[][] on = {{0, 0}, {2, 1}, {4, 2}, {6, 3}, {8, 4}, {6, 5}, {0, 8}, {0, 7}, {0, 1}};
        for (int[] p : on) {
            Due.is("within(" + p[0] + ", " + p[1] + ")", x.within(p[0], p[1]), 2);
        }
        int[][] off = {{-2, -1, 0}, {10, 5, 0}, {3, 1, 0}, {1, 1, 1}, {7, 4, 1}, {9, 4, 0}, {0, 9, 0}, {0, -1, 0},
            {-1, 4, 0}, {1, 4, 1}};
        for (int[] p : off) {
            Due.is("within(" + p[0] + ", " + p[1] + ")", x.within(p[0], p[1]), p[2]);
        }
        SlipperTruce close = way(1, 0, 2, 3, -5, 3);
        Due.is("close to an edge upwards, in it", close.within(1, 1), 1);
        Due.is("close to an edge upwards, beside it", close.within(2, 2), 0);
        SlipperTruce closeDown = way(-5, 3, 2, 3, 1, 0);
        Due.is("close to an edge downwards, in it", closeDown.within(1, 1), 1);
        Due.is("close to an edge downwards, beside it", closeDown.within(2, 2), 0);
        SlipperTruce far = way(-50, -50, 50, 49);
        Due.is("no point between", far.within(0, 0), 0);
        Due.is("the end", far.within(50, 49), 2);
    }

    private static void lesserEnd() {
        Due.says("(of an edge the end with the lesser y counts, the other one not; level ones do not count)");
        SlipperTruce tips = way(0, -5, 5, 0, 0, 5, -5, 0);
        Due.is("through two tips", tips.within(-9, 0), 0);
        Due.is("through one tip", tips.within(0, 0), 1);
        Due.is("past the highest", tips.within(-9, 5), 0);
        Due.is("past the lowest", tips.within(-9, -5), 0);
        SlipperTruce steps = way(0, 0, 4, 0, 4, 2, 2, 2, 2, 4, 0, 4);
        Due.is("in it, at the height of a step", steps.within(1, 2), 1);
        Due.is("left of it, at the height of a step", steps.within(-1, 2), 0);
        Due.is("left of it, at the height of its bottom", steps.within(-1, 0), 0);
        Due.is("left of it, at the height of its top", steps.within(-1, 4), 0);
        Due.is("right of the upper step", steps.within(3, 3), 0);
        SlipperTruce down = way(0, 4, 4, 4, 4, 2, 2, 2, 2, 0, 0, 0);
        Due.is("in it, at the height of a step downwards", down.within(1, 2), 1);
        Due.is("left of it, at the height of a step downwards", down.within(-1, 2), 0);
        SlipperTruce twice = way(0, 0, 4, 0, 4, 4, 0, 4, 0, 0, 4, 0, 4, 4, 0, 4);
        Due.is("twice round", twice.within(2, 2), 0);
        Due.is("twice round, on it", twice.within(4, 2), 2);
    }

    private static void areaBelowNone() {
        Due.says("of all edges x y' less x' y, together (as told, it may be below 0)");
        Due.is("one way", way(-50, -50, 50, -50, 50, 50, -50, 50).area(), 20000);
        Due.is("the other way", way(-50, 50, 50, 50, 50, -50, -50, -50).area(), -20000);
        Due.is("a half", way(0, 0, 1, 0, 0, 1).area(), 1);
        Due.is("less a half", way(0, 0, 0, 1, 1, 0).area(), -1);
        Due.is("crossed", way(0, 0, 4, 4, 4, 0, 0, 4).area(), 0);
        Due.is("eight, back and forth as far as can be",
            way(-50, -50, 50, -50, 50, 50, -50, 50, -50, -50, 50, -50, 50, 50, -50, 50).area(), 40000);
    }

    private static void cornerRefused() {
        Due.says("A corner for WITHIN (x NONE - 99: none is then): how many; NONE if one can't be, or there are eight.");
        SlipperTruce x = new SlipperTruce();
        Due.is("corner(NONE - 99, 0) of none", x.corner(-100, 0), 0);
        int[][] wrong = {{-51, 0}, {51, 0}, {0, -51}, {0, 51}, {-99, 0}, {-101, 0}, {0, -100}};
        for (int[] w : wrong) {
            Due.is("corner(" + w[0] + ", " + w[1] + ")", x.corner(w[0], w[1]), -1);
        }
        for (int far : Due.FAR) {
            Due.is("corner(" + far + ", 0)", x.corner(far, 0), -1);
            Due.is("corner(0, " + far + ")", x.corner(0, far), -1);
        }
        Due.is("within(0, 0): nothing was told", x.within(0, 0), 0);
        int[][] right = {{-50, -50}, {50, -50}, {50, 50}, {-50, 50}, {-1, -1}, {-1, -1}, {0, 0}, {0, 0}};
        for (int y : new int[] {0, 51, Integer.MIN_VALUE, Integer.MAX_VALUE}) {
            for (int i = 0; i < 8; i++) {
                Due.is("corner", x.corner(right[i][0], right[i][1]), i + 1);
            }
            Due.is("there are eight", x.corner(1, 1), -1);
            Due.is("there are eight", x.corner(51, 1), -1);
            Due.is("within(0, 0)", x.within(0, 0), 2);
            Due.is("corner(NONE - 99, " + y + ")", x.corner(-100, y), 0);
            Due.is("within(0, 0)", x.within(0, 0), 0);
        }
    }

    private static void withinRefused() {
        Due.says("WITHIN (-50 .. 50). NONE if one can't be.");
        for (SlipperTruce x : new SlipperTruce[] {new SlipperTruce(), way(-50, -50, 50, -50, 50, 50, -50, 50)}) {
            int[][] wrong = {{-51, 0}, {51, 0}, {0, -51}, {0, 51}, {-100, 0}};
            for (int[] w : wrong) {
                Due.is("within(" + w[0] + ", " + w[1] + ")", x.within(w[0], w[1]), -1);
            }
            for (int far : Due.FAR) {
                Due.is("within(" + far + ", 0)", x.within(far, 0), -1);
                Due.is("within(0, " + far + ")", x.within(0, far), -1);
            }
            int due = x.area() == 0 ? 0 : 2;
            Due.is("within(-50, -50)", x.within(-50, -50), due);
            Due.is("within(50, 50)", x.within(50, 50), due);
            Due.is("within(-50, 50)", x.within(-50, 50), due);
            Due.is("within(50, -50)", x.within(50, -50), due);
        }
    }

    private static void fewerThanThree() {
        Due.says("WITHIN: twice the area (fewer than three: 0).");
        Due.is("none", new SlipperTruce().area(), 0);
        Due.is("one", way(50, 49).area(), 0);
        Due.is("two", way(50, 49, -3, 7).area(), 0);
        Due.is("three", way(50, 49, -3, 7, 0, 1).area(), 50 * 7 + 3 * 49 + -3 * 1 - 50);
    }

    // ---- PARTS, BRACKETS, GAME ----

    private static void partsOf() {
        Due.says("PARTS of n (2 .. 99999): how many primes, counted as often as they are in it; the greatest; how many "
                + "numbers divide it; their sum.");
        SlipperTruce x = new SlipperTruce();
        int[][] told = {{2, 1, 2, 2, 3}, {3, 1, 3, 2, 4}, {4, 2, 2, 3, 7}, {98, 3, 7, 6, 171}, {65536, 16, 2, 17, 131071},
            {99991, 1, 99991, 2, 99992}, {99999, 4, 271, 12, 148512}, {83160, 9, 11, 128, 345600},
            {99856, 6, 79, 15, 31 * (1 + 79 + 79 * 79)}};
        for (int[] t : told) {
            for (int what = 0; what < 4; what++) {
                Due.is("parts(" + t[0] + ", " + what + ")", x.parts(t[0], what), t[what + 1]);
            }
        }
    }

    private static void partsRefused() {
        Due.says("PARTS what 0 primes, 1 the greatest, 2 how many divide it, 3 their sum. NONE if n can't be, or "
                + "another what.");
        SlipperTruce x = new SlipperTruce();
        for (int n : new int[] {1, 0, -1, -2, 100000, Integer.MIN_VALUE, Integer.MAX_VALUE}) {
            for (int what = 0; what < 4; what++) {
                Due.is("parts(" + n + ", " + what + ")", x.parts(n, what), -1);
            }
        }
        for (int what : new int[] {-1, 4, Integer.MIN_VALUE, Integer.MAX_VALUE}) {
            Due.is("parts(12, " + what + ")", x.parts(12, what), -1);
        }
    }

    private static void couples() {
        Due.says("BRACKETS: n (0 .. 8) couples ( ) well set");
        SlipperTruce x = new SlipperTruce();
        int[] many = {1, 1, 2, 5, 14, 42, 132, 429, 1430};
        for (int n = 0; n <= 8; n++) {
            int first = (1 << 2 * n) - (1 << n);
            int last = ((1 << 2 * n) - 1) / 3 * 2;
            Due.is("brackets(" + n + ", 0, 0)", x.brackets(n, 0, 0), many[n]);
            Due.is("the first of " + n, x.brackets(n, 0, 1), first);
            Due.is("the last of " + n, x.brackets(n, many[n] - 1, 1), last);
            Due.is("which one the first is", x.brackets(n, first, 2), 0);
            Due.is("which one the last is", x.brackets(n, last, 2), many[n] - 1);
        }
        int[] three = {56, 52, 50, 44, 42};
        for (int k = 0; k < 5; k++) {
            Due.is("brackets(3, " + k + ", 1)", x.brackets(3, k, 1), three[k]);
            Due.is("brackets(3, " + three[k] + ", 2)", x.brackets(3, three[k], 2), k);
        }
    }

    private static void notWellSet() {
        Due.says("which one k is (NONE: it is not well set)");
        SlipperTruce x = new SlipperTruce();
        for (int row = -2; row < 20; row++) {
            Due.is("brackets(0, " + row + ", 2)", x.brackets(0, row, 2), row == 0 ? 0 : -1);
            Due.is("brackets(1, " + row + ", 2)", x.brackets(1, row, 2), row == 2 ? 0 : -1);
            Due.is("brackets(2, " + row + ", 2)", x.brackets(2, row, 2), row == 12 ? 0 : row == 10 ? 1 : -1);
        }
        int[][] wrong = {{8, 65535}, {8, 0}, {8, 65281}, {8, 43689}, {8, 65536}, {8, 65536 + 43690}, {2, 9}, {2, 13},
            {2, 16 + 10}, {3, 7}, {3, 64 + 56}, {8, 255}, {4, 240 * 2}};
        for (int[] w : wrong) {
            Due.is("brackets(" + w[0] + ", " + w[1] + ", 2)", x.brackets(w[0], w[1], 2), -1);
        }
        for (int far : Due.FAR) {
            Due.is("brackets(8, " + far + ", 2)", x.brackets(8, far, 2), -1);
        }
    }

    private static void bracketsRefused() {
        Due.says("BRACKETS what 0 how many rows (k not asked), 1 the k-th, 2 which one k is. NONE, too, if one can't "
                + "be, or another what.");
        SlipperTruce x = new SlipperTruce();
        for (int far : Due.FAR) {
            Due.is("brackets(8, " + far + ", 0)", x.brackets(8, far, 0), 1430);
            Due.is("brackets(0, " + far + ", 0)", x.brackets(0, far, 0), 1);
            Due.is("brackets(8, " + far + ", 1)", x.brackets(8, far, 1), -1);
        }
        int[] many = {1, 1, 2, 5, 14, 42, 132, 429, 1430};
        for (int n = 0; n <= 8; n++) {
            Due.is("brackets(" + n + ", " + many[n] + ", 1)", x.brackets(n, many[n], 1), -1);
            Due.is("brackets(" + n + ", -1, 1)", x.brackets(n, -1, 1), -1);
        }
        for (int n : new int[] {-1, 9, 10, 15, 16, 31, 32, Integer.MIN_VALUE, Integer.MAX_VALUE}) {
            for (int what = 0; what < 3; what++) {
                Due.is("brackets(" + n + ", 0, " + what + ")", x.brackets(n, 0, what), -1);
            }
        }
        for (int what : new int[] {-1, 3, Integer.MIN_VALUE, Integer.MAX_VALUE}) {
            Due.is("brackets(3, 0, " + what + ")", x.brackets(3, 0, what), -1);
            Due.is("brackets(3, 42, " + what + ")", x.brackets(3, 42, what), -1);
        }
    }

    private static void heaps() {
        Due.says("GAME of coals: a heap of n (1 .. 120)");
        SlipperTruce x = new SlipperTruce();
        // 120 is 89 and 21 and 8 and 2
        int[][] told = {{1, 1, 1}, {1, -1, -1}, {2, -1, -1}, {3, -1, -1}, {4, -1, 1}, {7, -1, 2}, {11, -1, 3},
            {55, -1, -1}, {88, -1, 1}, {89, -1, -1}, {110, -1, 21}, {119, -1, 1}, {120, -1, 2}, {120, 120, 2}};
        for (int[] t : told) {
            Due.is("game(" + t[0] + ", " + t[1] + ")", x.game(t[0], t[1]), t[2]);
        }
        Due.is("game(0, 1)", x.game(0, 1), -1);
        Due.is("game(121, 1)", x.game(121, 1), -1);
    }

    private static void mostAtFirst() {
        Due.says("at most m (1 .. 120, all at most; m NONE: at most n less 1)");
        SlipperTruce x = new SlipperTruce();
        int[][] told = {{5, 5, 5}, {5, 6, 5}, {5, 120, 5}, {5, 4, -1}, {5, -1, -1}, {1, 120, 1}, {2, 1, -1}, {2, 2, 2},
            {11, 1, -1}, {11, 2, -1}, {11, 3, 3}, {11, 4, 3}, {11, 11, 3}, {11, 120, 3}, {89, 88, -1}, {89, 89, 89},
            {89, 120, 89}, {120, 1, -1}, {120, 2, 2}, {34, 33, -1}, {34, 34, 34}};
        for (int[] t : told) {
            Due.is("game(" + t[0] + ", " + t[1] + ")", x.game(t[0], t[1]), t[2]);
        }
    }

    private static void twiceAtMost() {
        Due.says("then each takes one at least and at most twice what the other one took just ahead");
        SlipperTruce x = new SlipperTruce();
        // of 4 he takes 1: the other one takes 1 or 2 of 3, and what is left is taken at once
        Due.is("game(4, 3)", x.game(4, 3), 1);
        Due.is("game(3, 2)", x.game(3, 2), -1);
        Due.is("game(3, 3)", x.game(3, 3), 3);
        Due.is("game(6, 5)", x.game(6, 5), 1);
        Due.is("game(7, 6)", x.game(7, 6), 2);
        Due.is("game(8, 7)", x.game(8, 7), -1);
    }

    private static void ifHeCanWin() {
        Due.says("who takes the last one wins: the least that who begins takes, if he can win (NONE)");
        boolean[][] wins = new boolean[41][81]; // of a heap with so many at most
        for (int heap = 1; heap <= 40; heap++) {
            for (int most = 1; most <= 80; most++) {
                for (int take = 1; take <= Math.min(most, heap); take++) {
                    wins[heap][most] = wins[heap][most] || !wins[heap - take][2 * take];
                }
            }
        }
        for (int n = 1; n <= 40; n++) {
            SlipperTruce x = new SlipperTruce();
            for (int m = -1; m <= 120; m++) {
                int due = -1;
                for (int take = Math.min(n, m == -1 ? n - 1 : m); take >= 1; take--) {
                    due = wins[n - take][2 * take] ? due : take;
                }
                Due.is("game(" + n + ", " + m + ")", x.game(n, m), due);
            }
        }
    }

    private static void gameRefused() {
        Due.says("GAME by n; by n and m (m NONE: the first one). NONE, too, if one can't be.");
        SlipperTruce x = new SlipperTruce();
        for (int n : new int[] {0, -1, 121, Integer.MIN_VALUE, Integer.MAX_VALUE}) {
            Due.is("game(" + n + ", 1)", x.game(n, 1), -1);
            Due.is("game(" + n + ", 120)", x.game(n, 120), -1);
            Due.is("game(" + n + ", NONE)", x.game(n, -1), -1);
        }
        for (int m : new int[] {0, -2, 121, Integer.MIN_VALUE, Integer.MAX_VALUE}) {
            Due.is("game(4, " + m + ")", x.game(4, m), -1);
            Due.is("game(1, " + m + ")", x.game(1, m), -1);
        }
        Due.is("game(4, 1)", x.game(4, 1), 1);
        Due.is("game(4, NONE)", x.game(4, -1), 1);
    }
}
