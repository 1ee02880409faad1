/** Promises 8 to 11: the TAPE, the four texts and their FAULTS; and what THE LAW tells. */
public final class TextsTest {
    public static void main(String[] args) {
        tape();
        bytes();
        noSuchText();
        faultTells();
        tokens();
        fullTape();
        lawGrammar();
        openOnes();
        seventeenLines();
        lawTells();
        arithmetic();
        conditions();
        variables();
        held();
        orders();
        service();
        needs();
        firstByPlace();
        Due.close("TextsTest");
    }

    private static SlipperTruce some() {
        SlipperTruce x = new SlipperTruce();
        x.officer(0, 5);
        x.officer(1, 3);
        x.officer(0, 7);
        x.batman(1, 6);
        x.batman(0, 2);
        return x;
    }

    private static void tape() {
        SlipperTruce x = new SlipperTruce();
        Due.is("end(0)", x.end(0), true);
        Due.is("end(1)", x.end(1), false);
        Due.is("end(-1)", x.end(-1), false);
        for (int i = 1; i <= 20; i++) {
            Due.is("feed", x.feed(0, 0, 0, 0, 0), 20 * i);
        }
        Due.is("feed over 400", x.feed(1, 1, 1, 1, 1), -1);
        Due.is("end(401)", x.end(401), false);
        Due.is("end(-2147483648)", x.end(Integer.MIN_VALUE), false);
        Due.is("end(400)", x.end(400), true);
        Due.is("end(381)", x.end(381), true);
        Due.is("feed over 400", x.feed(1, 1, 1, 1, 1), -1);
        Due.is("end(381)", x.end(381), true);
        Due.is("end(382)", x.end(382), false);
        Due.is("end(380)", x.end(380), true);
        Due.is("feed to 400", x.feed(1, 1, 1, 1, 1), 400);
        Due.is("end(7)", x.end(7), true);
        Due.is("feed to 27", x.feed(1, 1, 1, 1, 1), 27);
        Due.is("end(28)", x.end(28), false);
    }

    private static void bytes() {
        SlipperTruce x = new SlipperTruce();
        x.officer(0, 1);
        x.feed(0x70726573, 0x73657320, 0x31323334, 0x2f32303b, 0x20202020);
        Due.is("text(0): the highest byte is the first", x.text(0), 1);
        Due.is("held", x.of(0, 9), 20);
        x.feed(0x0a0a2020, 0x20202020, 0x20202020, 0x20202020, 0x2020200a);
        Due.is("text(0) of blanks", x.text(0), 0);
        Due.is("of(0, 9)", x.of(0, 9), 1);
        for (int c = 0; c < 256; c++) {
            x = c % 64 == 0 ? new SlipperTruce() : x;
            x.feed(c << 24 | 0x202020, 0x20202020, 0x20202020, 0x20202020, 0x20202020);
            boolean blank = c == 32 || c == 10;
            Due.is("text(0) of the byte " + c, x.text(0), blank ? 0 : -1);
            Due.is("fault(0)", x.fault(0), blank ? 0 : 1);
            Due.is("fault(1)", x.fault(1), blank ? -1 : 0);
        }
        Due.tape(x, "presses 7;presses 8;");
        x.end(10);
        Due.is("text(0) of the first 10", x.text(0), 1);
        x.end(0);
    }

    private static void noSuchText() {
        SlipperTruce x = some();
        for (int k : new int[] {-1, 4, Integer.MIN_VALUE, Integer.MAX_VALUE}) {
            Due.is("a FAULT ahead", Due.tell(x, 0, "!"), -1);
            Due.is("fault(0)", x.fault(0), 1);
            Due.is("text(" + k + ")", Due.tell(x, k, "on 1 truce;"), -1);
            Due.is("fault(0)", x.fault(0), 0);
            Due.is("fault(1)", x.fault(1), -1);
            Due.is("the TAPE is empty", x.end(1), false);
        }
    }

    private static void faultTells() {
        SlipperTruce x = some();
        Due.told(x, 0, "presses 4;", 1);
        Due.faulty(x, 0, "presses 5;?", 1, 10);
        for (int what : new int[] {-1, 2, Integer.MIN_VALUE, Integer.MAX_VALUE}) {
            Due.is("fault(" + what + ")", x.fault(what), -1);
        }
        Due.is("the LAW stays", x.of(0, 9), 4);
        x.days(1);
        x.officer(9, 9);
        Due.is("fault(0) stays", x.fault(0), 1);
        Due.is("fault(1) stays", x.fault(1), 10);
        Due.told(x, 0, "", 0);
        Due.is("of(0, 9)", x.of(0, 9), 5);
    }

    private static void tokens() {
        SlipperTruce x = some();
        Due.told(x, 1, "on1march0 99;on\n002 march 0000 0099 ;\n", 2);
        Due.told(x, 0, "presses1;rests2when1<2;", 2);
        Due.faulty(x, 1, "on 00001 truce;", 1, 3);
        Due.faulty(x, 1, "on 1 Truce;", 1, 5);
        Due.faulty(x, 1, "on 1 truces;", 1, 5);
        Due.faulty(x, 1, "on 1 truc;", 1, 5);
        Due.faulty(x, 1, "on 1 truce.", 1, 10);
        Due.faulty(x, 1, "on\t1 truce;", 1, 2);
        Due.faulty(x, 1, "on\r1 truce;", 1, 2);
        Due.faulty(x, 1, "o n 1 truce;", 1, 0);
        Due.faulty(x, 1, "ON 1 truce;", 1, 0);
        Due.faulty(x, 1, "on 1 truce", 1, 10);
        Due.faulty(x, 1, "on 1 truce  \n ", 1, 14);
        Due.faulty(x, 1, ";", 1, 0);
        Due.faulty(x, 1, "on 1 truce;;", 1, 11);
        Due.faulty(x, 1, "on -1 truce;", 1, 3);
        Due.faulty(x, 1, "on \351 truce;", 1, 3);
        Due.faulty(x, 1, "onmarch", 1, 0);
        Due.faulty(x, 0, "presses 1 2;", 1, 10);
        Due.faulty(x, 0, "presses 12 34;", 1, 11);
        Due.faulty(x, 0, "pressesskill;", 1, 0);
        Due.faulty(x, 0, "presses skillplan;", 1, 8);
    }

    private static void fullTape() {
        SlipperTruce x = some();
        for (String sign : ";+-*/()<=>.?".split("")) {
            Due.faulty(x, 0, sign.repeat(400), 1, 0);
        }
        Due.told(x, 0, "reads 1" + "+1".repeat(196) + ";", 1);
        Due.is("of(0, 11)", x.of(0, 11), 197);
        Due.faulty(x, 0, "reads 1" + "+1".repeat(196) + "+", 1, 400);
        x = some();
        Due.told(x, 0, "reads 9" + "*1".repeat(196) + ";", 1);
        Due.is("of(0, 11)", x.of(0, 11), 9);
        Due.told(x, 0, "reads 9" + "/1".repeat(196) + ";", 1);
        Due.is("of(0, 11)", x.of(0, 11), 9);
        Due.faulty(x, 0, "reads 9" + "/1".repeat(195) + "/0;", 2, 398);
        Due.told(x, 0, "reads 8 when 1=2" + " or 1=2".repeat(53) + " or 1=1" + ";", 1);
        Due.is("of(0, 11)", x.of(0, 11), 8);
        x = some();
        Due.told(x, 0, "rests 1;" + " ".repeat(392), 1);
        Due.told(x, 0, " ".repeat(392) + "rests 1;", 1);
        Due.faulty(x, 0, " ".repeat(393) + "rests 1", 1, 400);
        Due.faulty(x, 0, "z".repeat(400), 1, 0);
        Due.faulty(x, 0, "rests " + "1".repeat(394), 1, 6);
        x = some();
        for (String letter : "a m z A M Z".split(" ")) {
            Due.faulty(x, 0, "presses skill" + letter + ";", 1, 8);
            Due.faulty(x, 0, "presses " + letter + "skill;", 1, 8);
        }
        for (String sign : "@ [ ` { ? !".split(" ")) {
            Due.faulty(x, 0, "presses skill" + sign + ";", 1, 13);
        }
        for (String sign : ": .".split(" ")) {
            Due.faulty(x, 0, "presses 12" + sign + ";", 1, 10);
        }
    }

    private static void lawGrammar() {
        SlipperTruce x = some();
        Due.told(x, 0, "presses skill+sleep-plan*hole*care/9999;", 1);
        Due.told(x, 0, "reads wear*line when side=done and day>1 or not(1=1);rests 0000;reads 9999;", 3);
        String[] words = {"officer", "batman", "needs", "on", "march", "sole", "new", "truce", "when", "and", "or",
            "not", "presses", "rests", "reads", "x", ";", "+", "-", "*", "/", "(", ")", "<", "=", ">", "12345"};
        for (String word : words) {
            x = some();
            Due.faulty(x, 0, "presses " + word + ";", 1, 8);
            Due.faulty(x, 0, "presses 1+" + word + ";", 1, 10);
            Due.faulty(x, 0, "presses 1*" + word + ";", 1, 10);
            Due.faulty(x, 0, "presses 1/" + word + ";", 1, 10);
            if (!word.equals("not") && !word.equals("(")) {
                Due.faulty(x, 0, "presses 1 when " + word + ";", 1, 15);
            }
            Due.faulty(x, 0, "presses 1 when 1=" + word + ";", 1, 17);
        }
        for (String word : "presses rests reads not ( ) and or < = > 7 skill on".split(" ")) {
            Due.faulty(x, 0, "rests 1 " + word + ";", 1, 8);
        }
        x = some();
        for (String word : "presses rests reads not ( ) < = > 7 skill when".split(" ")) {
            Due.faulty(x, 0, "rests 1 when 1=1 " + word + ";", 1, 17);
        }
        x = some();
        Due.faulty(x, 0, "rests 1/skill;", 1, 8);
        Due.faulty(x, 0, "rests 1 when 1;", 1, 14);
        Due.faulty(x, 0, "rests 1 when 1 and 1=1;", 1, 15);
        Due.faulty(x, 0, "rests 1 when (1=1;", 1, 17);
        Due.faulty(x, 0, "rests 1 when (1)=1;", 1, 15);
        Due.faulty(x, 0, "rests 1 when (1=1)=1;", 1, 18);
        Due.faulty(x, 0, "rests 1 when (1=1)+1;", 1, 18);
        Due.faulty(x, 0, "rests (1);", 1, 6);
        Due.faulty(x, 0, "rests 1 when 1=(1);", 1, 15);
        Due.faulty(x, 0, "rests 1 when 1=1=1;", 1, 16);
        Due.faulty(x, 0, "rests 1 when ();", 1, 14);
        Due.faulty(x, 0, "rests 1 when 1=1 and;", 1, 20);
        Due.faulty(x, 0, "rests 1 when 1=1 or and 1=1;", 1, 20);
        Due.faulty(x, 0, "rests 1 when not;", 1, 16);
        Due.faulty(x, 0, "rests 1 when 1<=1;", 1, 15);
        Due.faulty(x, 0, "rests 1 when", 1, 12);
        Due.faulty(x, 0, "rests", 1, 5);
        Due.faulty(x, 0, "rests 1", 1, 7);
        Due.faulty(x, 0, "rests 1 when 1", 1, 14);
        Due.faulty(x, 0, "rests 1 when 1=1", 1, 16);
        Due.faulty(x, 0, "rests 1 when (1=1)", 1, 18);
        Due.faulty(x, 0, "rests 1/", 1, 8);
        Due.faulty(x, 0, "rests 1/0;", 2, 8);
        Due.faulty(x, 0, "rests 1/0000;", 2, 8);
        Due.faulty(x, 0, "rests 1/00000;", 1, 8);
        Due.faulty(x, 0, "rests 1/2/0;", 2, 10);
        Due.faulty(x, 0, "rests 1 when 5/ 0>1;", 2, 16);
        Due.faulty(x, 0, "on 1 truce;", 1, 0);
    }

    private static void openOnes() {
        SlipperTruce x = some();
        Due.told(x, 0, "rests 7 when ((((((((1=1))))))));", 1);
        Due.is("of(0, 10)", x.of(0, 10), 7);
        Due.told(x, 0, "rests 7 when not not not not not not not not 1=1;", 1);
        Due.is("of(0, 10)", x.of(0, 10), 7);
        Due.told(x, 0, "rests 7 when not not not not not not not 1=1;", 1);
        Due.is("of(0, 10)", x.of(0, 10), 10);
        Due.told(x, 0, "rests 7 when not(not(not(not(1=2))));", 1);
        Due.is("of(0, 10)", x.of(0, 10), 10);
        Due.faulty(x, 0, "rests 7 when not(not(not(not(not 1=2))));", 3, 29);
        Due.faulty(x, 0, "rests 7 when not(not(not(not((1=2)))));", 3, 29);
        Due.faulty(x, 0, "rests 7 when (((((((((1=1)))))))));", 3, 21);
        Due.told(x, 0, "rests 7 when (((((((not 1=1 and not 1=1 or not 1=1))))))) or (1=1);", 1);
        Due.is("of(0, 10)", x.of(0, 10), 7);
        Due.faulty(x, 0, "rests 7 when (((((((not(1=1))))))) );", 3, 23);
        Due.told(x, 0, "rests 7 when (((((((not 1=1) or (1=2))))))) and not(not(not(not(2=2))));", 1);
        Due.is("of(0, 10)", x.of(0, 10), 10);
        Due.told(x, 0, "rests 7 when not 1=1 or not 1=1 or not 1=1 or not 1=1 or not 1=1 or not 1=1 or not 1=1 or not 1=1"
                + " or not 1=1 or not 1=2 and not (1=2) and (1=1) and (1=1) and (1=1) and (1=1) and (1=1) and (1=1)"
                + " and (1=1) and (1=1);", 1);
        Due.is("of(0, 10)", x.of(0, 10), 7);
    }

    private static void seventeenLines() {
        SlipperTruce x = some();
        String[] lines = {"rests 1;", "on 1 truce;", "officer 0 batman 0;", "officer 0 needs 2;"};
        String[] wrong = {"on", "rests", "batman", "needs"};
        for (int k = 0; k < 4; k++) {
            String sixteen = lines[k].repeat(16);
            Due.told(x, k, sixteen, 16);
            Due.is("look", x.look(8 + k), 16);
            Due.faulty(x, k, sixteen + lines[k], 3, sixteen.length());
            Due.faulty(x, k, sixteen + " \n" + lines[k].charAt(0), 1, sixteen.length() + 2);
            Due.faulty(x, k, sixteen + " " + wrong[k], 1, sixteen.length() + 1);
            Due.faulty(x, k, sixteen + ";", 1, sixteen.length());
            Due.told(x, k, sixteen + " ", 16);
            Due.told(x, k, lines[k], 1);
        }
    }

    private static void lawTells() {
        SlipperTruce x = some();
        Due.told(x, 0, "presses 3 when side=1;presses 4 when skill=7;presses 9 when skill=7;", 3);
        Due.is("none is so", x.of(0, 9), 5);
        Due.is("the first is so", x.of(1, 9), 3);
        Due.is("the second is so", x.of(2, 9), 4);
        Due.told(x, 0, "rests 3;presses 2;presses 1 when 1=1;", 3);
        Due.is("the first has none", x.of(0, 9), 2);
        Due.is("of another word", x.of(0, 10), 3);
        Due.is("of none", x.of(0, 11), 0);
        Due.told(x, 2, "officer 0 batman 0;", 1);
        x.set(4, 0, 99);
        Due.is("of none: 40 times care, and wear", x.of(0, 11), 40 * 6 + 99);
        Due.told(x, 0, "reads 5 when 1=2;rests 5 when 1=2;", 2);
        Due.is("reads: none is so", x.of(0, 11), 40 * 6 + 99);
        Due.is("rests: none is so", x.of(0, 10), 10 + 5 * 6);
        x.set(3, 0, 9);
        Due.is("rests: 10 and 5 times care", x.of(0, 10), 55);
        Due.is("rests: without one", x.of(1, 10), 10);
    }

    private static void reads(SlipperTruce x, String e, int due) {
        Due.told(x, 0, "reads " + e + ";", 1);
        Due.is("reads " + e, x.of(0, 11), due);
    }

    private static void arithmetic() {
        SlipperTruce x = some();
        reads(x, "1+2*3", 7);
        reads(x, "2*3+1", 7);
        reads(x, "10-2-3", 5);
        reads(x, "10-2+3", 11);
        reads(x, "100/7/2", 7);
        reads(x, "100/7*2", 28);
        reads(x, "7*100/3", 233);
        reads(x, "1-8/3+2*3*4-1", 22);
        reads(x, "500+0-7/2", 497);
        reads(x, "500+0*0-7*1/2", 497);
        reads(x, "9999*9999*9999*9999*0+8", 8);
        x.set(5, 0, -7);
        reads(x, "10+line/2", 7);
        reads(x, "10+line/9999", 10);
        reads(x, "line*line", 49);
        reads(x, "line", 0);
        x.set(5, 0, 0);
        int big = 9999 * 9999 * 50;
        reads(x, "9999*9999*50/9999", Math.max(0, Math.min(1000, big / 9999)));
        reads(x, "9999*9999*50", big > 0 ? 1000 : 0);
        reads(x, "9999*9999*43", 9999 * 9999 * 43 > 0 ? 1000 : 0);
        reads(x, "9999*9999*22", 9999 * 9999 * 22 > 0 ? 1000 : 0);
    }

    private static void when(SlipperTruce x, String b, boolean due) {
        Due.told(x, 0, "reads 77 when " + b + ";", 1);
        Due.is("when " + b, x.of(0, 11), due ? 77 : 0);
    }

    private static void conditions() {
        SlipperTruce x = some();
        when(x, "1<2", true);
        when(x, "2<2", false);
        when(x, "3<2", false);
        when(x, "1>2", false);
        when(x, "2>2", false);
        when(x, "3>2", true);
        when(x, "2=2", true);
        when(x, "2=3", false);
        when(x, "1+1=4-2", true);
        when(x, "2*3>10/2", true);
        when(x, "1=1 or 1=1 and 1=2", true);
        when(x, "1=2 and 1=1 or 1=1", true);
        when(x, "(1=1 or 1=1) and 1=2", false);
        when(x, "1=2 or 1=2 or 1=1", true);
        when(x, "1=1 and 1=1 and 1=2", false);
        when(x, "1=1 and 1=2 or 1=2 and 1=1", false);
        when(x, "1=1 and 1=1 or 1=2 and 1=2", true);
        when(x, "1=2 and 1=2 or 1=1 and 1=1", true);
        when(x, "not 1=2 and 1=2", false);
        when(x, "not (1=2 and 1=2)", true);
        when(x, "not 1=1 or 1=1", true);
        when(x, "not (1=1 or 1=1)", false);
        when(x, "not not 1=1", true);
        when(x, "0-1<0", true);
        when(x, "9999*9999*22>0", 9999 * 9999 * 22 > 0);
    }

    private static void variables() {
        SlipperTruce x = some();
        x.set(1, 0, 61);
        x.set(2, 0, 62);
        x.set(4, 0, 63);
        x.act(1, 0, 0);
        x.set(5, 0, 64);
        Due.told(x, 1, "on 0 truce;on 1 truce;on 2 truce;", 3);
        x.days(3);
        reads(x, "skill", 5);
        reads(x, "sleep", 31);
        reads(x, "plan", 62);
        reads(x, "hole", 1);
        reads(x, "care", 0);
        reads(x, "wear", 0);
        reads(x, "line", 64);
        reads(x, "side", 0);
        reads(x, "done", 0);
        reads(x, "day", 3);
        Due.told(x, 2, "officer 0 batman 0;officer 1 batman 1;", 2);
        reads(x, "care", 6);
        reads(x, "wear", 63);
        Due.is("the other one's", x.of(1, 11), 0);
        reads(x, "care*100+wear*10+side", 1000);
        Due.is("the other one's", x.of(1, 11), 201);
        x.act(2, 0, 0);
        x.set(2, 0, 99);
        x.days(1);
        reads(x, "done*10+hole", 10);
    }

    private static void held() {
        SlipperTruce x = some();
        Due.told(x, 0, "presses 21;rests 100;reads 1001;", 3);
        Due.is("presses", x.of(0, 9), 20);
        Due.is("rests", x.of(0, 10), 99);
        Due.is("reads", x.of(0, 11), 1000);
        Due.told(x, 0, "presses 0-1;rests 0-1;reads 0-1;", 3);
        Due.is("presses", x.of(0, 9), 0);
        Due.is("rests", x.of(0, 10), 0);
        Due.is("reads", x.of(0, 11), 0);
        Due.told(x, 0, "presses 20;rests 99;reads 1000;", 3);
        Due.is("presses", x.of(0, 9), 20);
        Due.is("rests", x.of(0, 10), 99);
        Due.is("reads", x.of(0, 11), 1000);
    }

    private static void orders() {
        SlipperTruce x = some();
        Due.told(x, 1, "on 0 march 0 1;on 999 march 2 99;on 5 hole 1;on 5 sole 2;on 5 new 1;on 5 truce;", 6);
        Due.faulty(x, 1, "on 1000 truce;", 2, 3);
        Due.faulty(x, 1, "on 9999 truce;", 2, 3);
        Due.faulty(x, 1, "on 10000 truce;", 1, 3);
        Due.faulty(x, 1, "on 1 march 3 5;", 2, 11);
        Due.faulty(x, 1, "on 1 march 2 0;", 2, 13);
        Due.faulty(x, 1, "on 1 march 2 100;", 2, 13);
        Due.faulty(x, 1, "on 1 hole 3;", 2, 10);
        Due.faulty(x, 1, "on 1 sole 3;", 2, 10);
        Due.faulty(x, 1, "on 1 new 2;", 2, 9);
        Due.faulty(x, 1, "on 1 march 2;", 1, 12);
        Due.faulty(x, 1, "on 1 hole 2 5;", 1, 12);
        Due.faulty(x, 1, "on 1 truce 2;", 1, 11);
        Due.faulty(x, 1, "on truce;", 1, 3);
        Due.faulty(x, 1, "on 1;", 1, 4);
        Due.faulty(x, 1, "on 1 2;", 1, 5);
        Due.faulty(x, 1, "on", 1, 2);
        Due.faulty(x, 1, "on 1", 1, 4);
        Due.faulty(x, 1, "on 1 march", 1, 10);
        Due.faulty(x, 1, "on 1 march 2", 1, 12);
        for (String word : "on skill presses officer batman needs when wear".split(" ")) {
            Due.faulty(x, 1, "on 1 " + word + " 0;", 1, 5);
        }
        Due.told(x, 1, "", 0);
        Due.is("look(9)", x.look(9), 0);
        SlipperTruce y = new SlipperTruce();
        Due.faulty(y, 1, "on 1 hole 0;", 2, 10);
        Due.faulty(y, 1, "on 1 new 0;", 2, 9);
        Due.told(y, 1, "on 1 truce;", 1);
    }

    private static void service() {
        SlipperTruce x = some();
        Due.told(x, 2, "officer 0 batman 0;officer 2 batman 0;officer 1 batman 1;", 3);
        Due.faulty(x, 2, "officer 3 batman 0;", 2, 8);
        Due.faulty(x, 2, "officer 0 batman 2;", 2, 17);
        Due.faulty(x, 2, "officer 0 batman 1;", 2, 17);
        Due.faulty(x, 2, "officer 1 batman 0;", 2, 17);
        Due.faulty(x, 2, "officer 0 batman 0;officer 1 batman 9999;", 2, 36);
        Due.faulty(x, 2, "officer 0 needs 2;", 1, 10);
        Due.faulty(x, 2, "officer 0 0;", 1, 10);
        Due.faulty(x, 2, "officer batman 0;", 1, 8);
        Due.faulty(x, 2, "officer 0 batman;", 1, 16);
        Due.faulty(x, 2, "officer 0 batman 0 batman 0;", 1, 19);
        Due.faulty(x, 2, "officer 0 batman 0", 1, 18);
        Due.faulty(x, 2, "officer 3", 2, 8);
        Due.is("of(2, 7): what was told stays", x.of(2, 7), 0);
        Due.told(x, 2, "officer 1 batman 1;", 1);
        Due.is("of(2, 7)", x.of(2, 7), -1);
        Due.told(x, 2, "", 0);
        Due.is("of(1, 7)", x.of(1, 7), -1);
        SlipperTruce y = new SlipperTruce();
        Due.faulty(y, 2, "officer 0 batman 0;", 2, 8);
        y.officer(0, 0);
        Due.faulty(y, 2, "officer 0 batman 0;", 2, 17);
    }

    private static void needs() {
        SlipperTruce x = some();
        Due.told(x, 3, "officer 0 needs 2;officer 2 needs 0;", 2);
        Due.faulty(x, 3, "officer 3 needs 0;", 2, 8);
        Due.faulty(x, 3, "officer 0 needs 3;", 2, 16);
        Due.faulty(x, 3, "officer 0 needs 1;", 2, 16);
        Due.faulty(x, 3, "officer 0 needs 0;", 2, 16);
        Due.faulty(x, 3, "officer 1 needs 1;", 2, 16);
        Due.faulty(x, 3, "officer 0 batman 0;", 1, 10);
        Due.faulty(x, 3, "officer 0 needs officer 2;", 1, 16);
        Due.faulty(x, 3, "needs 0;", 1, 0);
        Due.faulty(x, 3, "officer 0 needs 2 2;", 1, 18);
        Due.faulty(x, 3, "officer 0 needs 2", 1, 17);
        Due.is("of(0, 8): what was told stays", x.of(0, 8), 4);
        Due.told(x, 3, "", 0);
        Due.is("of(0, 8)", x.of(0, 8), 0);
    }

    private static void firstByPlace() {
        SlipperTruce x = some();
        Due.faulty(x, 0, "rests 1/0 when ?", 2, 8);
        Due.faulty(x, 0, "rests ? 1/0", 1, 6);
        Due.faulty(x, 0, "rests 1;reads 2/0;rests;", 2, 16);
        Due.faulty(x, 1, "on 1000 march 7 0", 2, 3);
        Due.faulty(x, 1, "on 1 march 7 0;on 1000", 2, 11);
        Due.faulty(x, 2, "officer 0 batman 1 ?", 2, 17);
        Due.faulty(x, 0, "rests 1 when ((((((((?(1=1", 1, 21);
        Due.faulty(x, 0, "rests 1 when (((((((((?", 3, 21);
    }
}
