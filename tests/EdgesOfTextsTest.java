/**
 * The document's part 2 (TEXTS) and promises 8 to 11: each sentence that tells of an edge has a test of its own,
 * which begins with it. Each text is told to a new object.
 */
public final class EdgesOfTextsTest {
    private static final int LAW = 0;
    private static final int ORDERS = 1;
    private static final int SERVICE = 2;
    private static final int NEEDS = 3;
    private static final String[] LINES = {"rests 1;", "on 1 truce;", "officer 0 batman 0;", "officer 0 needs 2;"};
    private static final String[] SIGNS = {";", "+", "-", "*", "/", "(", ")", "<", "=", ">"};
    private static final String[] WORDS = {"presses", "rests", "reads", "when", "or", "and", "not", "skill", "sleep",
        "plan", "hole", "care", "wear", "line", "side", "done", "day", "on", "march", "sole", "new", "truce",
        "officer", "batman", "needs"};

    public static void main(String[] args) {
        grammarOfLaw();
        otherTexts();
        tokens();
        faults();
        whatLawTells();
        promises();
        Due.close("EdgesOfTextsTest");
    }

    private static void grammarOfLaw() {
        emptyAtFirst();
        lawLines();
        orOfConditions();
        andOfConditions();
        comparisons();
        sums();
        products();
        units();
    }

    private static void otherTexts() {
        ordersLines();
        ordersBounds();
        serviceLines();
        serviceOfUnlikeSides();
        serviceLastCounts();
        serviceNone();
        serviceOfTwo();
        needsLines();
        needsOfTen();
        sixteenLines();
    }

    private static void tokens() {
        keywordsOfThatText();
        numbers();
        signs();
        blanks();
        wraps();
        quotientTowardsNone();
    }

    private static void faults() {
        firstByPlace();
        leastAtOnePlace();
        cannotStand();
        partByNone();
        beyondBounds();
        noneSuch();
        wrongSecond();
        seventeenth();
        ninthOpen();
    }

    private static void whatLawTells() {
        firstLineThatIsSo();
        withoutLine();
        pressesHeld();
        restsHeld();
        readsHeld();
        withoutBatman();
    }

    private static void promises() {
        feedBytes();
        feedFull();
        endOfTape();
        textTaken();
        textRefused();
        faultTells();
        faultRefused();
    }

    // ---- what the tests begin with ----

    /** OFFICERS 0 and 2 of SIDE 0, 1 of SIDE 1; BATMAN 0 of SIDE 1, 1 of SIDE 0. */
    private static SlipperTruce some() {
        SlipperTruce x = new SlipperTruce();
        x.officer(0, 5);
        x.officer(1, 3);
        x.officer(0, 7);
        x.batman(1, 6);
        x.batman(0, 2);
        return x;
    }

    private static SlipperTruce told(int k, String text, int lines) {
        SlipperTruce x = some();
        Due.told(x, k, text, lines);
        return x;
    }

    private static void fault(int k, String text, int fault, int place) {
        Due.faulty(some(), k, text, fault, place);
    }

    /** What THE LAW tells of OFFICER 0 for the word reads. */
    private static void reads(String law, int due) {
        Due.is("reads by \"" + law + "\"", told(LAW, law, 1).of(0, 11), due);
    }

    private static void when(String b, boolean due) {
        reads("reads 77 when " + b + ";", due ? 77 : 0);
    }

    // ---- THE LAW ----

    private static void emptyAtFirst() {
        Due.says("TEXTS (empty at first).");
        SlipperTruce x = some();
        for (int k = 0; k < 4; k++) {
            Due.is("look(" + (8 + k) + ")", x.look(8 + k), 0);
        }
        Due.is("presses", x.of(0, 9), 5);
        Due.is("his BATMAN", x.of(0, 7), -1);
        Due.is("whom he NEEDS", x.of(0, 8), 0);
        x.act(0, 0, 1);
        x.days(1);
        Due.is("PLAN without ORDERS", x.of(0, 3), 1);
    }

    private static void lawLines() {
        Due.says("0 THE LAW = {(presses | rests | reads) E [when B] ;}.");
        told(LAW, "", 0);
        told(LAW, " \n ", 0);
        told(LAW, "presses 1;", 1);
        told(LAW, "rests 1 when 1=1;", 1);
        told(LAW, "reads 1;presses 2;rests 3;reads 4;", 4);
        fault(LAW, "presses", 1, 7);
        fault(LAW, "presses;", 1, 7);
        fault(LAW, "presses 1", 1, 9);
        fault(LAW, "presses 1 when", 1, 14);
        fault(LAW, "presses 1 when;", 1, 14);
        fault(LAW, "presses 1 when 1=1", 1, 18);
        fault(LAW, "presses when 1=1;", 1, 8);
        fault(LAW, "presses 1 when 1=1 when 1=1;", 1, 19);
        fault(LAW, "presses 1 2;", 1, 10);
        fault(LAW, "presses 1 rests 1;", 1, 10);
        fault(LAW, "presses presses 1;", 1, 8);
        fault(LAW, "presses 1;;", 1, 10);
        fault(LAW, ";", 1, 0);
        fault(LAW, "1;", 1, 0);
        fault(LAW, "skill 1;", 1, 0);
        fault(LAW, "when 1=1;", 1, 0);
    }

    private static void orOfConditions() {
        Due.says("B = A {or A}.");
        when("1=2 or 1=2", false);
        when("1=2 or 1=1", true);
        when("1=1 or 1=2", true);
        when("1=1 or 1=1", true);
        when("1=2 or 1=2 or 1=2 or 1=1", true);
        when("1=1 or 1=1 and 1=2", true);
        when("1=2 and 1=1 or 1=1", true);
        fault(LAW, "rests 1 when or 1=1;", 1, 13);
        fault(LAW, "rests 1 when 1=1 or;", 1, 19);
        fault(LAW, "rests 1 when 1=1 or or 1=1;", 1, 20);
        fault(LAW, "rests 1 when 1=1 or and 1=1;", 1, 20);
        fault(LAW, "rests 1 when 1=1 or 1;", 1, 21);
        fault(LAW, "rests 1 or 1=1;", 1, 8);
    }

    private static void andOfConditions() {
        Due.says("A = C {and C}.");
        when("1=2 and 1=2", false);
        when("1=2 and 1=1", false);
        when("1=1 and 1=2", false);
        when("1=1 and 1=1", true);
        when("1=1 and 1=1 and 1=1 and 1=2", false);
        when("1=2 and 1=1 or 1=2 and 1=1", false);
        when("1=2 and 1=2 or 1=1 and 1=1", true);
        fault(LAW, "rests 1 when and 1=1;", 1, 13);
        fault(LAW, "rests 1 when 1=1 and;", 1, 20);
        fault(LAW, "rests 1 when 1=1 and and 1=1;", 1, 21);
        fault(LAW, "rests 1 when 1=1 and 1;", 1, 22);
        fault(LAW, "rests 1 and 1=1;", 1, 8);
    }

    private static void comparisons() {
        Due.says("C = E (< | = | >) E | not C | ( B ).");
        String[] signs = {"<", "=", ">"};
        for (int i = 0; i < 3; i++) {
            for (int left = 4; left < 7; left++) {
                when(left + signs[i] + "5", Integer.compare(left, 5) == i - 1);
            }
        }
        when("0-1<0", true);
        when("not 1=1", false);
        when("not 1=2", true);
        when("not not 1=1", true);
        when("not 1=2 and 1=2", false);
        when("not (1=2 and 1=2)", true);
        when("not 1=1 or 1=1", true);
        when("(1=1)", true);
        when("(1=1 or 1=1) and 1=2", false);
        when("1=1 or (1=2)", true);
        when("1=2 and (1=1)", false);
        when("1=2 or (1=2 or 1=1)", true);
        when("1=1 and (1=2 or 1=1)", true);
        for (String so : "1<2 2=2 2>1".split(" ")) {
            when("not " + so, false);
            when("not not " + so, true);
            when("not (" + so + " and " + so + ")", false);
        }
        fault(LAW, "rests 1 when 1;", 1, 14);
        fault(LAW, "rests 1 when 1=;", 1, 15);
        fault(LAW, "rests 1 when =1;", 1, 13);
        fault(LAW, "rests 1 when 1=1=1;", 1, 16);
        fault(LAW, "rests 1 when 1<=1;", 1, 15);
        fault(LAW, "rests 1 when not;", 1, 16);
        fault(LAW, "rests 1 when 1=1 not 1=1;", 1, 17);
        fault(LAW, "rests 1 when ();", 1, 14);
        fault(LAW, "rests 1 when (1=1;", 1, 17);
        fault(LAW, "rests 1 when 1=1);", 1, 16);
        fault(LAW, "rests 1 when (1=1));", 1, 18);
        fault(LAW, "rests 1 when (1)=1;", 1, 15);
        fault(LAW, "rests 1 when (1=1)=1;", 1, 18);
        fault(LAW, "rests 1 when 1=(1);", 1, 15);
    }

    private static void sums() {
        Due.says("E = T {(+ | -) T}.");
        reads("reads 7;", 7);
        reads("reads 10+2;", 12);
        reads("reads 10-2;", 8);
        reads("reads 10-2-3;", 5);
        reads("reads 10-2+3;", 11);
        reads("reads 1+2*3-4/2+5;", 10);
        fault(LAW, "rests 1+;", 1, 8);
        fault(LAW, "rests 1-;", 1, 8);
        fault(LAW, "rests +1;", 1, 6);
        fault(LAW, "rests -1;", 1, 6);
        fault(LAW, "rests 1++1;", 1, 8);
        fault(LAW, "rests 1+-1;", 1, 8);
        fault(LAW, "rests 1 when 1+=1;", 1, 15);
        fault(LAW, "rests 1 when 1=1+;", 1, 17);
    }

    private static void products() {
        Due.says("T = U {* U | / NUMBER}.");
        reads("reads 7*6;", 42);
        reads("reads 42/5;", 8);
        reads("reads 100/7*2;", 28);
        reads("reads 7*100/3;", 233);
        reads("reads 100/7/2;", 7);
        reads("reads skill*skill/1;", 25);
        fault(LAW, "rests 1*;", 1, 8);
        fault(LAW, "rests *1;", 1, 6);
        fault(LAW, "rests 1**1;", 1, 8);
        fault(LAW, "rests 1/;", 1, 8);
        fault(LAW, "rests /1;", 1, 6);
        fault(LAW, "rests 1/skill;", 1, 8);
        fault(LAW, "rests 1/(1);", 1, 8);
        fault(LAW, "rests 1/ /1;", 1, 9);
    }

    private static void units() {
        Due.says("U = NUMBER | skill | sleep | plan | hole | care | wear | line | side | done | day.");
        for (int i = 0; i < WORDS.length; i++) {
            if (i >= 7 && i <= 16) {
                told(LAW, "rests " + WORDS[i] + ";", 1);
                told(LAW, "rests 1*" + WORDS[i] + " when " + WORDS[i] + "=" + WORDS[i] + ";", 1);
            } else {
                fault(LAW, "rests " + WORDS[i] + ";", 1, 6);
                fault(LAW, "rests 1*" + WORDS[i] + ";", 1, 8);
                fault(LAW, "rests 1 when 1=" + WORDS[i] + ";", 1, 15);
            }
        }
        for (String sign : SIGNS) {
            fault(LAW, "rests " + sign, 1, 6);
        }
    }

    // ---- ORDERS, SERVICE, NEEDS ----

    private static void ordersLines() {
        Due.says("1 ORDERS = {on DAY (march OFFICER N | hole OFFICER | sole OFFICER | new BATMAN | truce) ;}");
        told(ORDERS, "", 0);
        told(ORDERS, "on 1 march 0 5;on 1 hole 0;on 1 sole 0;on 1 new 0;on 1 truce;", 5);
        fault(ORDERS, "on", 1, 2);
        fault(ORDERS, "on 1", 1, 4);
        fault(ORDERS, "on 1;", 1, 4);
        fault(ORDERS, "on truce;", 1, 3);
        fault(ORDERS, "1 truce;", 1, 0);
        fault(ORDERS, "truce;", 1, 0);
        fault(ORDERS, "on 1 1;", 1, 5);
        fault(ORDERS, "on 1 march;", 1, 10);
        fault(ORDERS, "on 1 march 0;", 1, 12);
        fault(ORDERS, "on 1 march 0 5 5;", 1, 15);
        fault(ORDERS, "on 1 march 0 5", 1, 14);
        fault(ORDERS, "on 1 truce 0;", 1, 11);
        fault(ORDERS, "on 1 truce on 1 truce;", 1, 11);
        for (String word : "hole sole new".split(" ")) {
            int end = 5 + word.length();
            fault(ORDERS, "on 1 " + word + ";", 1, end);
            fault(ORDERS, "on 1 " + word + " 0 5;", 1, end + 3);
            fault(ORDERS, "on 1 " + word + " 0", 1, end + 2);
        }
        fault(ORDERS, ";", 1, 0);
        fault(ORDERS, "on 1 truce;;", 1, 11);
    }

    private static void ordersBounds() {
        Due.says("(DAY 0 .. 999; march 1 .. 99.)");
        told(ORDERS, "on 0 truce;on 0000 truce;on 999 truce;on 0999 truce;", 4);
        told(ORDERS, "on 1 march 0 1;on 1 march 0 99;on 1 march 0 0099;", 3);
        fault(ORDERS, "on 1000 truce;", 2, 3);
        fault(ORDERS, "on 9999 truce;", 2, 3);
        fault(ORDERS, "on 1 march 0 0;", 2, 13);
        fault(ORDERS, "on 1 march 0 0000;", 2, 13);
        fault(ORDERS, "on 1 march 0 100;", 2, 13);
        fault(ORDERS, "on 1 march 0 9999;", 2, 13);
        SlipperTruce x = told(ORDERS, "on 0 march 0 99;on 0 march 1 1;on 0 truce;", 3);
        x.days(1);
        Due.is("PLAN by 99", x.of(0, 3), 99);
        Due.is("PLAN by 1", x.of(1, 3), 1);
    }

    private static void serviceLines() {
        Due.says("2 SERVICE = {officer OFFICER batman BATMAN ;}");
        told(SERVICE, "", 0);
        told(SERVICE, "officer 0 batman 0;officer 1 batman 1;", 2);
        fault(SERVICE, "officer", 1, 7);
        fault(SERVICE, "officer batman 0;", 1, 8);
        fault(SERVICE, "officer 0", 1, 9);
        fault(SERVICE, "officer 0;", 1, 9);
        fault(SERVICE, "officer 0 0;", 1, 10);
        fault(SERVICE, "officer 0 needs 2;", 1, 10);
        fault(SERVICE, "officer 0 officer 2;", 1, 10);
        fault(SERVICE, "officer 0 batman", 1, 16);
        fault(SERVICE, "officer 0 batman;", 1, 16);
        fault(SERVICE, "officer 0 batman 0", 1, 18);
        fault(SERVICE, "officer 0 batman 0 0;", 1, 19);
        fault(SERVICE, "batman 0 officer 0;", 1, 0);
    }

    private static void serviceOfUnlikeSides() {
        Due.says("(of unlike SIDES;");
        told(SERVICE, "officer 0 batman 0;", 1);
        told(SERVICE, "officer 1 batman 1;", 1);
        fault(SERVICE, "officer 0 batman 1;", 2, 17);
        fault(SERVICE, "officer 1 batman 0;", 2, 17);
    }

    private static void serviceLastCounts() {
        Due.says("of several for one OFFICER the last");
        SlipperTruce x = some();
        x.batman(1, 9);
        Due.told(x, SERVICE, "officer 0 batman 2;officer 0 batman 0;officer 2 batman 0;officer 2 batman 2;", 4);
        Due.is("of(0, 7)", x.of(0, 7), 0);
        Due.is("of(2, 7)", x.of(2, 7), 2);
        Due.is("who(0, 3)", x.who(0, 3), 1);
        Due.is("who(2, 3)", x.who(2, 3), 4);
    }

    private static void serviceNone() {
        Due.says("others have none");
        SlipperTruce x = told(SERVICE, "officer 0 batman 0;", 1);
        Due.is("of(1, 7)", x.of(1, 7), -1);
        Due.is("of(2, 7)", x.of(2, 7), -1);
        Due.told(x, SERVICE, "officer 1 batman 1;", 1);
        Due.is("of(0, 7): of the text told anew", x.of(0, 7), -1);
        Due.told(x, SERVICE, "", 0);
        Due.is("of(1, 7): of no line", x.of(1, 7), -1);
    }

    private static void serviceOfTwo() {
        Due.says("two can have one.");
        SlipperTruce x = told(SERVICE, "officer 0 batman 0;officer 2 batman 0;", 2);
        Due.is("of(0, 7)", x.of(0, 7), 0);
        Due.is("of(2, 7)", x.of(2, 7), 0);
        Due.is("who(0, 3)", x.who(0, 3), 5);
    }

    private static void needsLines() {
        Due.says("3 NEEDS = {officer OFFICER needs OFFICER ;}");
        told(NEEDS, "", 0);
        told(NEEDS, "officer 0 needs 2;officer 2 needs 0;officer 0 needs 2;", 3);
        fault(NEEDS, "officer", 1, 7);
        fault(NEEDS, "officer needs 2;", 1, 8);
        fault(NEEDS, "officer 0", 1, 9);
        fault(NEEDS, "officer 0;", 1, 9);
        fault(NEEDS, "officer 0 2;", 1, 10);
        fault(NEEDS, "officer 0 batman 0;", 1, 10);
        fault(NEEDS, "officer 0 needs", 1, 15);
        fault(NEEDS, "officer 0 needs;", 1, 15);
        fault(NEEDS, "officer 0 needs officer 2;", 1, 16);
        fault(NEEDS, "officer 0 needs 2", 1, 17);
        fault(NEEDS, "officer 0 needs 2 2;", 1, 18);
        fault(NEEDS, "needs 2;", 1, 0);
    }

    private static void needsOfTen() {
        Due.says("(his plan comes on only while the other's, of his own SIDE and unlike, is at 10 at least.)");
        fault(NEEDS, "officer 0 needs 1;", 2, 16);
        fault(NEEDS, "officer 1 needs 2;", 2, 16);
        fault(NEEDS, "officer 2 needs 2;", 2, 16);
        SlipperTruce x = told(NEEDS, "officer 0 needs 2;", 1);
        int[] plans = {0, 9, 10, 11, 99, 9};
        int[] due = {0, 0, 1, 2, 3, 3};
        for (int i = 0; i < plans.length; i++) {
            x.set(2, 2, plans[i]);
            x.act(0, 0, 1);
            Due.is("PLAN while the other's is at " + plans[i], x.of(0, 3), due[i]);
        }
    }

    private static void sixteenLines() {
        Due.says("16 lines of each at most.");
        for (int k = 0; k < 4; k++) {
            Due.is("look", told(k, LINES[k].repeat(16), 16).look(8 + k), 16);
            Due.is("look", told(k, LINES[k].repeat(15), 15).look(8 + k), 15);
            fault(k, LINES[k].repeat(17), 3, 16 * LINES[k].length());
        }
        SlipperTruce x = told(LAW, "rests 1 when 1=2;".repeat(15) + "rests 99;", 16);
        Due.is("the sixteenth counts", x.of(0, 10), 99);
        SlipperTruce y = told(ORDERS, "on 0 truce;".repeat(15) + "on 0 hole 0;", 16);
        y.days(1);
        Due.is("the sixteenth is followed", y.of(0, 5), 1);
        SlipperTruce z = told(SERVICE, "officer 0 batman 0;".repeat(15) + "officer 2 batman 0;", 16);
        Due.is("the sixteenth serves", z.who(0, 3), 5);
        SlipperTruce w = told(NEEDS, "officer 0 needs 2;".repeat(15) + "officer 2 needs 0;", 16);
        Due.is("the sixteenth needs", w.of(2, 8), 1);
    }

    // ---- TOKENS ----

    private static void keywordsOfThatText() {
        Due.says("letters (a .. z, A .. Z) as many as stand together are KEYWORDS (those told here for that text) or "
                + "none");
        String[] first = {"presses rests reads", "on", "officer", "officer"};
        for (int k = 0; k < 4; k++) {
            for (String word : WORDS) {
                if (!(" " + first[k] + " ").contains(" " + word + " ")) {
                    fault(k, word, 1, 0);
                }
            }
        }
        for (String word : WORDS) {
            if (!"march hole sole new truce".contains(word)) {
                fault(ORDERS, "on 1 " + word + " 0;", 1, 5);
            }
            if (!word.equals("batman")) {
                fault(SERVICE, "officer 0 " + word + " 0;", 1, 10);
            }
            if (!word.equals("needs")) {
                fault(NEEDS, "officer 0 " + word + " 2;", 1, 10);
            }
        }
        fault(ORDERS, "on 1 truces;", 1, 5);
        fault(ORDERS, "on 1 truc;", 1, 5);
        fault(ORDERS, "on 1 t;", 1, 5);
        fault(ORDERS, "on 1 Truce;", 1, 5);
        fault(ORDERS, "on 1 trucE;", 1, 5);
        fault(ORDERS, "ON 1 truce;", 1, 0);
        fault(ORDERS, "on 1 truceon 1 truce;", 1, 5);
        fault(ORDERS, "on 1 tru ce;", 1, 5);
        for (char letter : "azAZ".toCharArray()) {
            fault(LAW, "rests skill" + letter + ";", 1, 6);
            fault(LAW, "rests " + letter + "skill;", 1, 6);
            fault(LAW, "rests " + letter + ";", 1, 6);
        }
        for (char none : "@[`{_".toCharArray()) {
            fault(LAW, "rests skill" + none + ";", 1, 11);
        }
        told(ORDERS, "on1march0 5;on2truce;", 2);
    }

    private static void numbers() {
        Due.says("digits as many as stand together NUMBERS of 1 to 4 digits or none");
        reads("reads 0;", 0);
        reads("reads 9;", 9);
        reads("reads 0099;", 99);
        when("9999=9998+1", true);
        when("1234=1000+234", true);
        fault(LAW, "rests 10000;", 1, 6);
        fault(LAW, "rests 00001;", 1, 6);
        fault(LAW, "rests 99999;", 1, 6);
        fault(LAW, "rests " + "1".repeat(394), 1, 6);
        fault(LAW, "rests 12 34;", 1, 9);
        fault(LAW, "rests 1/00001;", 1, 8);
        fault(ORDERS, "on 00001 truce;", 1, 3);
        fault(ORDERS, "on 1 hole 00000;", 1, 10);
        fault(ORDERS, "on 1 march 0 00001;", 1, 13);
        fault(SERVICE, "officer 00000 batman 0;", 1, 8);
        fault(SERVICE, "officer 0 batman 00000;", 1, 17);
        for (char none : "/:".toCharArray()) {
            fault(ORDERS, "on 1" + none + " truce;", 1, 4);
        }
    }

    private static void signs() {
        Due.says("; + - * / ( ) < = > .");
        told(LAW, "rests 1+2-3*4/5 when (1<2 or 1=2) and not 1>2;", 1);
        told(LAW, "rests 1 + 2 - 3 * 4 / 5 when ( 1 < 2 or 1 = 2 ) and not 1 > 2 ;", 1);
        for (char none : "!\"#$%&',.:?@[\\]^_`{|}~\t\r\0\177\200\377".toCharArray()) {
            fault(LAW, "rests 1" + none + ";", 1, 7);
            fault(LAW, "rests " + none + "1;", 1, 6);
            fault(LAW, "rests 1;" + none, 1, 8);
            fault(ORDERS, "on 1 " + none + "truce;", 1, 5);
        }
        fault(LAW, "rests 1.", 1, 7);
        fault(LAW, "rests 1 when 1==1;", 1, 15);
    }

    private static void blanks() {
        Due.says("Blanks (32, 10) between.");
        for (int c = 0; c < 256; c++) {
            boolean letter = c >= 'a' && c <= 'z' || c >= 'A' && c <= 'Z';
            String text = "on" + (char) c + "1 truce;";
            if (c == 32 || c == 10 || c >= '0' && c <= '9') {
                told(ORDERS, text, 1);
            } else {
                fault(ORDERS, text, 1, letter ? 0 : 2);
            }
            if (c != 32 && c != 10) {
                fault(ORDERS, "" + (char) c, 1, 0);
            }
        }
        told(ORDERS, "\n \n on\n1\n\ntruce  ;  on 2 truce;\n ", 2);
        told(ORDERS, "on1truce;", 1);
        fault(ORDERS, "o n 1 truce;", 1, 0);
        fault(ORDERS, "on 1 tru\nce;", 1, 5);
        told(LAW, " ".repeat(400), 0);
        told(LAW, "rests 1;" + "\n".repeat(392), 1);
        told(LAW, " ".repeat(392) + "rests 1;", 1);
    }

    private static void wraps() {
        Due.says("Ints, which wrap");
        // 9999 * 9999 is 99980001: 22 times it is 2199560022, an int of -2095407274; 43 times it is 4172747
        when("9999*9999*22<0", true);
        when("9999*9999*21>0", true);
        when("9999*9999*22+9999*9999*21=9999*9999*43", true);
        when("9999*9999*21+9999*9999<0", true);
        when("9999*9999*21-0+9999*9999=9999*9999*22", true);
        when("0-9999*9999*21-9999*9999>0", true);
        when("9999*9999*43=4172*1000+747", true);
        reads("reads 9999*9999*22;", 0);
        reads("reads 0-9999*9999*22;", 1000);
        reads("reads 9999*9999*9999*9999*0+8;", 8);
    }

    private static void quotientTowardsNone() {
        Due.says("/ goes towards 0.");
        reads("reads 7/2;", 3);
        reads("reads 10+0*7/2;", 10);
        when("0-7/2=0-3", true);
        for (int line : new int[] {-98, -7, -1}) {
            SlipperTruce x = some();
            x.set(5, 0, line);
            Due.told(x, LAW, "reads 100+line/2;", 1);
            Due.is("reads 100+line/2 with " + line, x.of(0, 11), 100 - -line / 2);
            Due.told(x, LAW, "reads 100+line/9999;", 1);
            Due.is("reads 100+line/9999 with " + line, x.of(0, 11), 100);
            Due.told(x, LAW, "reads 100+line/3;", 1);
            Due.is("reads 100+line/3 with " + line, x.of(0, 11), 100 - -line / 3);
        }
    }

    // ---- FAULTS ----

    private static void firstByPlace() {
        Due.says("FAULTS, the first by its place");
        fault(LAW, "rests 1/0 ?", 2, 8);
        fault(LAW, "rests ? 1/0", 1, 6);
        fault(LAW, "rests 1;reads 2/0;rests;", 2, 16);
        fault(LAW, "rests 1 when (((((((((1/0=1 ?", 3, 21);
        fault(LAW, "rests 1/0 when (((((((((1=1", 2, 8);
        fault(LAW, LINES[LAW].repeat(16) + "rests 1/0;", 3, 128);
        fault(LAW, LINES[LAW].repeat(15) + "rests 1/0;rests 1;", 2, 128);
        fault(ORDERS, "on 1000 march 7 0", 2, 3);
        fault(ORDERS, "on 1 march 7 0;on 1000", 2, 11);
        fault(ORDERS, "on 1 march 0 0 ?", 2, 13);
        fault(SERVICE, "officer 3 batman 9", 2, 8);
        fault(SERVICE, "officer 0 batman 1 ?", 2, 17);
        fault(NEEDS, "officer 0 needs 0 needs", 2, 16);
    }

    private static void leastAtOnePlace() {
        Due.says("at one place the least");
        for (int k = 0; k < 4; k++) {
            String sixteen = LINES[k].repeat(16);
            fault(k, sixteen + "when", 1, sixteen.length());
            fault(k, sixteen + ";", 1, sixteen.length());
            fault(k, sixteen + "7", 1, sixteen.length());
            fault(k, sixteen + LINES[k].charAt(0), 1, sixteen.length());
        }
        fault(LAW, "rests 1 when ((((((((1=1(", 1, 24);
        fault(LAW, "rests 1 when ((((((((1 not", 1, 23);
        fault(LAW, "rests 1 when ((((((((1=not", 1, 23);
        fault(LAW, "rests 1/00000;", 1, 8);
        fault(ORDERS, "on 10000 truce;", 1, 3);
        fault(ORDERS, "on 1 hole 00003;", 1, 10);
        fault(ORDERS, "on 1 truce 9;", 1, 11);
    }

    private static void cannotStand() {
        Due.says("1 what can't stand there (the end: the text's length).");
        fault(LAW, "rests", 1, 5);
        fault(LAW, "rests ", 1, 6);
        fault(LAW, "rests 1  \n", 1, 10);
        fault(LAW, "rests 1 when (1=1)  ", 1, 20);
        fault(LAW, "?", 1, 0);
        fault(LAW, "   ?", 1, 3);
        fault(ORDERS, "on 1 truce   ", 1, 13);
        fault(SERVICE, "officer 0 batman 0\n\n\n", 1, 21);
        fault(NEEDS, "officer 0 needs 2 ", 1, 18);
        fault(LAW, " ".repeat(393) + "rests 1", 1, 400);
        fault(LAW, "rests 1" + " ".repeat(393), 1, 400);
        fault(LAW, " ".repeat(399) + ";", 1, 399);
        fault(LAW, "z".repeat(400), 1, 0);
        for (int i = 1; i < 5; i++) {
            fault(LAW, " ".repeat(400 - i) + "reads".substring(0, i), 1, 400 - i);
            fault(ORDERS, " ".repeat(390) + "on 1 truce".substring(0, 5 + i) + " ".repeat(5 - i), 1, 395);
            fault(ORDERS, " ".repeat(395 - i) + "on 1 truce".substring(0, 5 + i), 1, 400 - i);
        }
        fault(LAW, " ".repeat(395) + "reads", 1, 400);
        fault(LAW, ";".repeat(400), 1, 0);
    }

    private static void partByNone() {
        Due.says("2 (at the NUMBER) a part by 0");
        fault(LAW, "rests 1/0;", 2, 8);
        fault(LAW, "rests 1/00;", 2, 8);
        fault(LAW, "rests 1/0000;", 2, 8);
        fault(LAW, "rests 1/ \n 0;", 2, 11);
        fault(LAW, "rests 0/0;", 2, 8);
        fault(LAW, "rests 1/2/0;", 2, 10);
        fault(LAW, "rests 1/2*3/0;", 2, 12);
        fault(LAW, "rests 1 when 1/0=1;", 2, 15);
        fault(LAW, "rests 1 when 1=1/0;", 2, 17);
        fault(LAW, "rests 1 when 1=2 and 1=1/0;", 2, 25);
        reads("reads 8/0001;", 8);
        reads("reads 0/9999;", 0);
        reads("reads 8*0;", 0);
    }

    private static void beyondBounds() {
        Due.says("one beyond its bounds");
        told(ORDERS, "on 999 march 2 99;on 0 march 0 1;", 2);
        fault(ORDERS, "on 1000 truce;", 2, 3);
        fault(ORDERS, "on 1 march 0 100;", 2, 13);
        fault(ORDERS, "on 1 march 0 0;", 2, 13);
        fault(ORDERS, "on 1 truce;on 1 march 0 0;", 2, 24);
        reads("reads 9999/9999;", 1);
    }

    private static void noneSuch() {
        Due.says("an OFFICER, a BATMAN that there is not");
        for (String word : "march hole sole".split(" ")) {
            String much = word.equals("march") ? " 5" : "";
            told(ORDERS, "on 1 " + word + " 2" + much + ";", 1);
            fault(ORDERS, "on 1 " + word + " 3" + much + ";", 2, 6 + word.length());
            fault(ORDERS, "on 1 " + word + " 9999" + much + ";", 2, 6 + word.length());
        }
        told(ORDERS, "on 1 new 1;", 1);
        fault(ORDERS, "on 1 new 2;", 2, 9);
        told(SERVICE, "officer 2 batman 0;", 1);
        fault(SERVICE, "officer 3 batman 0;", 2, 8);
        fault(SERVICE, "officer 0 batman 2;", 2, 17);
        told(NEEDS, "officer 2 needs 0;", 1);
        fault(NEEDS, "officer 3 needs 0;", 2, 8);
        fault(NEEDS, "officer 0 needs 3;", 2, 16);
        Due.faulty(new SlipperTruce(), ORDERS, "on 1 hole 0;", 2, 10);
        Due.faulty(new SlipperTruce(), ORDERS, "on 1 new 0;", 2, 9);
        Due.faulty(new SlipperTruce(), SERVICE, "officer 0 batman 0;", 2, 8);
        Due.faulty(new SlipperTruce(), NEEDS, "officer 0 needs 1;", 2, 8);
        SlipperTruce x = new SlipperTruce();
        for (int i = 0; i < 12; i++) {
            x.officer(0, i % 10);
            x.batman(1, i % 10);
        }
        Due.told(x, SERVICE, "officer 11 batman 11;", 1);
        Due.told(x, NEEDS, "officer 11 needs 10;officer 10 needs 11;", 2);
        Due.told(x, ORDERS, "on 1 march 11 5;on 1 new 11;", 2);
        Due.faulty(x, SERVICE, "officer 12 batman 11;", 2, 8);
        Due.faulty(x, SERVICE, "officer 11 batman 12;", 2, 18);
        Due.faulty(x, NEEDS, "officer 11 needs 12;", 2, 17);
        Due.faulty(x, ORDERS, "on 1 new 12;", 2, 9);
    }

    private static void wrongSecond() {
        Due.says("the second one, if he is of the wrong SIDE (SERVICE: the same; NEEDS: the other; himself).");
        fault(SERVICE, "officer 0 batman 1;", 2, 17);
        fault(SERVICE, "officer 2 batman 1;", 2, 17);
        fault(SERVICE, "officer 1 batman 0;", 2, 17);
        fault(SERVICE, "officer 0 batman 0;officer 2 batman  1;", 2, 37);
        fault(NEEDS, "officer 0 needs 1;", 2, 16);
        fault(NEEDS, "officer 1 needs 0;", 2, 16);
        for (int i = 0; i < 3; i++) {
            fault(NEEDS, "officer " + i + " needs " + i + ";", 2, 16);
        }
        told(SERVICE, "officer 0 batman 0;officer 2 batman 0;officer 1 batman 1;", 3);
        told(NEEDS, "officer 0 needs 2;officer 2 needs 0;", 2);
    }

    private static void seventeenth() {
        Due.says("3 (at its KEYWORD) the 17th line of a text");
        for (int k = 0; k < 4; k++) {
            String sixteen = LINES[k].repeat(16);
            String word = LINES[k].substring(0, LINES[k].indexOf(' '));
            fault(k, sixteen + LINES[k], 3, sixteen.length());
            fault(k, sixteen + word, 3, sixteen.length());
            fault(k, sixteen + " \n" + LINES[k] + LINES[k], 3, sixteen.length() + 2);
            told(k, sixteen + " \n", 16);
        }
        fault(LAW, LINES[LAW].repeat(16) + "presses 1;", 3, 128);
        fault(LAW, LINES[LAW].repeat(16) + "reads 1;", 3, 128);
    }

    private static void ninthOpen() {
        Due.says("(at it) the 9th ( or not that is open.");
        String nots = "not not not not not not not not ";
        when("((((((((1=1))))))))", true);
        when(nots + "1=1", true);
        when("not(not(not(not(1=1))))", true);
        when("((((((((1=1)))))))) and ((((((((1=1))))))))", true);
        when(nots + "1=1 and " + nots + "1=1", true);
        when("(((((((not 1=2 and not 1=2 or not 1=1)))))))", true);
        when("not(not(not(not(1=1)))) and (1=1) and not 1=2", true);
        fault(LAW, "rests 7 when (((((((((1=1)))))))));", 3, 21);
        fault(LAW, "rests 7 when " + nots + "not 1=1;", 3, 45);
        fault(LAW, "rests 7 when " + nots + "(1=1);", 3, 45);
        fault(LAW, "rests 7 when ((((((((not 1=1))))))));", 3, 21);
        fault(LAW, "rests 7 when not(not(not(not(not 1=1))));", 3, 29);
        fault(LAW, "rests 7 when not(not(not(not((1=1)))));", 3, 29);
        fault(LAW, "rests 7 when ((((((((1=1 and (1=1)", 3, 29);
        fault(LAW, "rests 7 when ((((((((1=1 or not", 3, 28);
        fault(LAW, "rests 7 when (((((((((", 3, 21);
    }

    // ---- what THE LAW tells ----

    private static void firstLineThatIsSo() {
        Due.says("E of the first line with that word whose B is so, or that has none");
        SlipperTruce x = told(LAW, "rests 9;reads 1 when skill=9;reads 2 when skill=5;reads 3 when skill=5;reads 4;"
                + "reads 5;", 6);
        Due.is("the first that is so", x.of(0, 11), 2);
        x.set(0, 0, 9);
        Due.is("the first", x.of(0, 11), 1);
        x.set(0, 0, 0);
        Due.is("that has none", x.of(0, 11), 4);
        Due.is("of that word alone", x.of(0, 10), 9);
        SlipperTruce y = told(LAW, "reads 8;reads 9 when 1=1;", 2);
        Due.is("the first has none", y.of(0, 11), 8);
    }

    private static void withoutLine() {
        Due.says("(none: presses: skill, rests: 10 and 5 times care, reads: 40 times care and wear)");
        SlipperTruce x = told(SERVICE, "officer 0 batman 0;", 1);
        for (String law : new String[] {"", "presses 1 when 1=2;rests 1 when 1=2;reads 1 when 1=2;"}) {
            Due.tell(x, LAW, law);
            for (int care = 0; care < 10; care++) {
                x.set(3, 0, care);
                x.set(4, 0, 11 * care);
                x.set(0, 0, 9 - care);
                Due.is("presses", x.of(0, 9), 9 - care);
                Due.is("rests", x.of(0, 10), 10 + 5 * care);
                Due.is("reads", x.of(0, 11), 40 * care + 11 * care);
            }
        }
        Due.is("rests, without a BATMAN", x.of(1, 10), 10);
        Due.is("reads, without a BATMAN", x.of(1, 11), 0);
    }

    private static void heldTo(String word, int what, int most) {
        int[] told = {0, 1, most - 1, most, most + 1, 9999};
        int[] due = {0, 1, most - 1, most, most, most};
        for (int i = 0; i < told.length; i++) {
            Due.is(word + " " + told[i], told(LAW, word + " " + told[i] + ";", 1).of(0, what), due[i]);
            Due.is(word + " less", told(LAW, word + " 0-" + told[i] + ";", 1).of(0, what), 0);
        }
    }

    private static void pressesHeld() {
        Due.says("presses held to 0 .. 20");
        heldTo("presses", 9, 20);
        SlipperTruce x = told(LAW, "presses 9999;", 1);
        x.days(1);
        Due.is("THE LINE, pressed by three", x.look(2), 20);
    }

    private static void restsHeld() {
        Due.says("rests to 0 .. 99");
        heldTo("rests", 10, 99);
        SlipperTruce x = told(LAW, "rests 0-50;", 1);
        Due.tell(x, SERVICE, "officer 0 batman 0;");
        x.days(1);
        Due.is("SLEEP", x.of(0, 2), 40);
    }

    private static void readsHeld() {
        Due.says("reads to 0 .. 1000");
        heldTo("reads", 11, 1000);
    }

    private static void withoutBatman() {
        Due.says("care, wear: the BATMAN's (without one 0)");
        SlipperTruce x = told(LAW, "rests 7+care+wear;reads 7+care*10+wear;", 2);
        x.set(3, 0, 9);
        x.set(4, 0, 50);
        Due.is("rests, without one", x.of(0, 10), 7);
        Due.is("reads, without one", x.of(0, 11), 7);
        Due.told(x, SERVICE, "officer 0 batman 0;", 1);
        Due.is("rests", x.of(0, 10), 66);
        Due.is("reads", x.of(0, 11), 147);
        Due.is("reads of another one", x.of(2, 11), 7);
    }

    // ---- promises 8 to 11 ----

    private static void feedBytes() {
        Due.says("Twenty bytes come behind the TAPE, of each number the highest first: how many it has.");
        SlipperTruce x = some();
        Due.is("feed", x.feed(0x72656164, 0x73203132, 0x3b0a2020, 0x20202020, 0x20202020), 20);
        Due.is("feed", x.feed(0x72657374, 0x7320343b, 0x20202020, 0x20202020, 0x20202072), 40);
        x.end(39);
        Due.is("text(0)", x.text(LAW), 2);
        Due.is("reads", x.of(0, 11), 12);
        Due.is("rests", x.of(0, 10), 4);
        x.feed(0x20202020, 0x20202020, 0x20202020, 0x20202020, 0x202020ff);
        Due.is("text(0): a byte above 127", x.text(LAW), -1);
        Due.is("its place", x.fault(1), 19);
        x.feed(0xff202020, 0, 0, 0, 0);
        Due.is("text(0): a byte above 127 as the first", x.text(LAW), -1);
        Due.is("its place", x.fault(1), 0);
    }

    private static void feedFull() {
        Due.says("NONE, and nothing comes, if there would be more than 400.");
        SlipperTruce x = some();
        for (int i = 1; i <= 20; i++) {
            Due.is("feed", x.feed(0x20202020, 0x20202020, 0x20202020, 0x20202020, 0x20202020), 20 * i);
        }
        Due.is("feed beyond 400", x.feed(0, 0, 0, 0, 0), -1);
        Due.is("end(401)", x.end(401), false);
        Due.is("end(400)", x.end(400), true);
        x.end(381);
        Due.is("feed from 381 on", x.feed(0, 0, 0, 0, 0), -1);
        Due.is("end(382)", x.end(382), false);
        Due.is("text(0): nothing came", x.text(LAW), 0);
        Due.is("feed onto an empty one", x.feed(0, 0, 0, 0, 0), 20);
        x.end(0);
        for (int i = 1; i <= 19; i++) {
            x.feed(0x20202020, 0x20202020, 0x20202020, 0x20202020, 0x20202020);
        }
        Due.is("feed from 380 on", x.feed(0x20202020, 0x20202020, 0x20202020, 0x20202020, 0x2020203f), 400);
        Due.is("text(0)", x.text(LAW), -1);
        Due.is("the last byte came", x.fault(1), 399);
    }

    private static void endOfTape() {
        Due.says("The TAPE has its first n bytes alone: true; false, changing nothing, if it has not so many, or n is "
                + "below 0.");
        SlipperTruce x = some();
        Due.is("end(0) of an empty one", x.end(0), true);
        Due.is("end(1) of an empty one", x.end(1), false);
        Due.is("end(-1) of an empty one", x.end(-1), false);
        x.feed(0x72656164, 0x7320373b, 0x3f3f3f3f, 0x3f3f3f3f, 0x3f3f3f3f);
        for (int n : new int[] {21, 400, -1, Integer.MIN_VALUE, Integer.MAX_VALUE}) {
            Due.is("end(" + n + ") of 20", x.end(n), false);
        }
        Due.is("end(20) of 20", x.end(20), true);
        Due.is("end(8) of 20", x.end(8), true);
        Due.is("end(9) of 8", x.end(9), false);
        Due.is("end(-1) of 8", x.end(-1), false);
        Due.is("text(0)", x.text(LAW), 1);
        Due.is("reads", x.of(0, 11), 7);
        x.feed(0x3f3f3f3f, 0x3f3f3f3f, 0x3f3f3f3f, 0x3f3f3f3f, 0x3f3f3f3f);
        Due.is("end(0) of 20", x.end(0), true);
        Due.is("text(0) of none", x.text(LAW), 0);
        cutAt("on 1 truces", 10, 1, 10);
        cutAt("on 1 truce", 9, 1, 5);
        cutAt("on 12345", 7, 2, 3);
        cutAt("on 1 march 0 12", 14, 1, 14);
        cutAt("on 1 truce;?", 11, 0, -1);
    }

    /** ORDERS whose TAPE goes on behind its end: what stood there counts for nothing. */
    private static void cutAt(String text, int end, int fault, int place) {
        SlipperTruce x = some();
        Due.tape(x, text);
        Due.is("end(" + end + ") of \"" + text + "\"", x.end(end), true);
        Due.is("text(1)", x.text(ORDERS), fault == 0 ? 1 : -1);
        Due.is("fault(0)", x.fault(0), fault);
        Due.is("fault(1)", x.fault(1), place);
    }

    private static void textTaken() {
        Due.says("The TAPE, empty then (whatever k, with a FAULT too), is TEXT k: how many lines.");
        for (int k = -1; k < 5; k++) {
            for (String text : new String[] {"", "?", k >= 0 && k < 4 ? LINES[k].repeat(3) : "rests 1;"}) {
                SlipperTruce x = some();
                int due = k < 0 || k > 3 || text.equals("?") ? -1 : text.isEmpty() ? 0 : 3;
                Due.is("text(" + k + ") of \"" + text + "\"", Due.tell(x, k, text), due);
                Due.is("the TAPE is empty", x.end(1), false);
                Due.is("feed onto it", x.feed(0, 0, 0, 0, 0), 20);
                for (int i = 0; i < 4; i++) {
                    Due.is("look(" + (8 + i) + ")", x.look(8 + i), i == k && due > 0 ? due : 0);
                }
            }
        }
        SlipperTruce full = some();
        for (int more = 190; more < 196; more++) {
            Due.told(full, LAW, "reads 1" + "+1".repeat(more) + ";", 1);
            Due.is("reads, of a full TAPE", full.of(0, 11), more + 1);
        }
    }

    private static void textRefused() {
        Due.says("NONE: no such one (fault() tells 0), or a FAULT (the TEXT stays as it was; the TAPE is empty in each "
                + "case).");
        for (int k : new int[] {-1, 4, 5, Integer.MIN_VALUE, Integer.MAX_VALUE}) {
            SlipperTruce x = some();
            Due.tell(x, LAW, "?");
            Due.is("a FAULT ahead", x.fault(0), 1);
            Due.is("text(" + k + ")", Due.tell(x, k, " ?"), -1);
            Due.is("fault(0)", x.fault(0), 0);
            Due.is("fault(1)", x.fault(1), -1);
            Due.is("the TAPE is empty", x.end(1), false);
        }
        SlipperTruce x = told(LAW, "presses 4;rests 5;reads 6;", 3);
        Due.told(x, ORDERS, "on 0 march 0 8;", 1);
        Due.told(x, SERVICE, "officer 0 batman 0;", 1);
        Due.told(x, NEEDS, "officer 2 needs 0;", 1);
        String was = Stand.war(x);
        Due.faulty(x, LAW, "presses 1;rests 2;reads 3;?", 1, 26);
        Due.faulty(x, ORDERS, "on 0 march 0 9;on 0 hole 1;on 0 new 2;", 2, 36);
        Due.faulty(x, SERVICE, "officer 2 batman 0;officer 1 batman 1;officer", 1, 45);
        Due.faulty(x, NEEDS, "officer 0 needs 2;officer 0 needs 0;", 2, 34);
        Due.faulty(x, LAW, LINES[LAW].repeat(17), 3, 128);
        Due.same("behind FAULTS", Stand.war(x), was);
    }

    private static void faultTells() {
        Due.says("Of the latest text() what 0 the FAULT (0 without one), 1 its place (NONE).");
        SlipperTruce x = some();
        Due.is("fault(0) without a text", x.fault(0), 0);
        Due.is("fault(1) without a text", x.fault(1), -1);
        Due.tell(x, LAW, "rests 1/0;");
        Due.is("fault(0)", x.fault(0), 2);
        Due.is("fault(1)", x.fault(1), 8);
        x.feed(0, 0, 0, 0, 0);
        x.end(3);
        x.end(99);
        x.officer(9, 9);
        x.days(1);
        x.undo();
        Due.is("fault(0) stays", x.fault(0), 2);
        Due.is("fault(1) stays", x.fault(1), 8);
        Due.tell(x, ORDERS, LINES[ORDERS].repeat(17));
        Due.is("fault(0) of the latest", x.fault(0), 3);
        Due.is("fault(1) of the latest", x.fault(1), 176);
        Due.tell(x, ORDERS, LINES[ORDERS]);
        Due.is("fault(0) without one", x.fault(0), 0);
        Due.is("fault(1) without one", x.fault(1), -1);
    }

    private static void faultRefused() {
        Due.says("NONE for another what.");
        SlipperTruce x = some();
        for (int turn = 0; turn < 2; turn++) {
            for (int what : new int[] {-1, 2, 3, Integer.MIN_VALUE, Integer.MAX_VALUE}) {
                Due.is("fault(" + what + ")", x.fault(what), -1);
            }
            Due.tell(x, LAW, "?");
        }
    }
}
