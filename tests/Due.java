import java.nio.charset.StandardCharsets;

/** What the tests share: it prints each call whose answer is not the one that is due. */
final class Due {
    static int wrong = 0;
    static int asked = 0;

    static void is(String call, long got, long want) {
        asked++;
        if (got != want) {
            wrong++;
            if (wrong <= 40) {
                System.out.println(call + " answered " + got + ", due is " + want);
            }
        }
    }

    static void is(String call, boolean got, boolean want) {
        is(call, got ? 1 : 0, want ? 1 : 0);
    }

    /** Feeds a text to the TAPE, byte by byte what it says, whatever stood there before. */
    static void tape(SlipperTruce x, String text) {
        byte[] bytes = text.getBytes(StandardCharsets.ISO_8859_1);
        x.end(0);
        for (int i = 0; i < bytes.length; i += 20) {
            int[] n = new int[5];
            for (int j = 0; j < 20; j++) {
                int b = i + j < bytes.length ? bytes[i + j] & 255 : 0;
                n[j / 4] |= b << 24 - j % 4 * 8;
            }
            x.feed(n[0], n[1], n[2], n[3], n[4]);
        }
        is("end of \"" + text + "\"", x.end(bytes.length), true);
    }

    static int tell(SlipperTruce x, int k, String text) {
        tape(x, text);
        return x.text(k);
    }

    /** A text that is told. */
    static void told(SlipperTruce x, int k, String text, int lines) {
        is("text " + k + " \"" + text + "\"", tell(x, k, text), lines);
        is("its fault(0)", x.fault(0), 0);
        is("its fault(1)", x.fault(1), -1);
        is("its tape", x.end(1), false);
    }

    /** A text with a FAULT. */
    static void faulty(SlipperTruce x, int k, String text, int fault, int place) {
        int before = x.look(8 + k);
        is("text " + k + " \"" + text + "\"", tell(x, k, text), -1);
        is("fault(0) of \"" + text + "\"", x.fault(0), fault);
        is("fault(1) of \"" + text + "\"", x.fault(1), place);
        is("the tape behind \"" + text + "\"", x.end(1), false);
        is("the lines behind \"" + text + "\"", x.look(8 + k), before);
    }

    static void close(String name) {
        System.out.println(name + ": " + asked + " answers, " + wrong + " wrong");
        if (wrong != 0) {
            System.exit(1);
        }
    }
}
