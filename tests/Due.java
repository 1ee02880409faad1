import java.io.IOException;
import java.nio.charset.StandardCharsets;
import java.nio.file.Files;
import java.nio.file.Path;

/** What the tests share: it prints each call whose answer is not the one that is due. */
final class Due {
    /** Numbers beyond all bounds that the document tells, but for those of an int. */
    static final int[] FAR = {Integer.MIN_VALUE, Integer.MIN_VALUE + 1, -1000000, 1000000, Integer.MAX_VALUE - 1,
        Integer.MAX_VALUE};
    static int wrong = 0;
    static int asked = 0;
    private static int sentences = 0;
    private static String sentence = "";
    private static String document = "";

    /** The words of the document that the answers from here on are held against; they must stand in it. */
    static void says(String words) {
        if (document.isEmpty()) {
            document = document();
        }
        sentences++;
        sentence = "\"" + words + "\": ";
        is("the document says so", document.contains(words), true);
    }

    private static String document() {
        try {
            return Files.readString(Path.of("../shared/DOC.md")).replaceAll("\\s+", " ");
        } catch (IOException e) {
            throw new IllegalStateException("the tests quote ../shared/DOC.md, which is not beside this folder", e);
        }
    }

    static void is(String call, long got, long want) {
        asked++;
        if (got != want) {
            wrong++;
            if (wrong <= 40) {
                System.out.println(sentence + call + " answered " + got + ", due is " + want);
            }
        }
    }

    static void is(String call, boolean got, boolean want) {
        is(call, got ? 1 : 0, want ? 1 : 0);
    }

    static void same(String call, String got, String want) {
        is(call + ": all stands as it did", got.equals(want), true);
    }

    /** Feeds a text to the TAPE, byte by byte what it says, whatever stood there before. */
    static void tape(SlipperTruce x, String text) {
        byte[] bytes = text.getBytes(StandardCharsets.ISO_8859_1);
        x.end(0);
        for (int i = 0; i < bytes.length; i += 20) {
            int[] n = new int[5];
            for (int j = 0; j < 20; j++) {
                int b = i + j < bytes.length ? bytes[i + j] & 255 : 0;
                n[j / 4] |= b << 24 - j % 4 * 8;
            }
            x.feed(n[0], n[1], n[2], n[3], n[4]);
        }
        is("end of \"" + text + "\"", x.end(bytes.length), true);
    }

    static int tell(SlipperTruce x, int k, String text) {
        tape(x, text);
        return x.text(k);
    }

    /** A text that is told. */
    static void told(SlipperTruce x, int k, String text, int lines) {
        is("text " + k + " \"" + text + "\"", tell(x, k, text), lines);
        is("its fault(0)", x.fault(0), 0);
        is("its fault(1)", x.fault(1), -1);
        is("its tape", x.end(1), false);
    }

    /** A text with a FAULT. */
    static void faulty(SlipperTruce x, int k, String text, int fault, int place) {
        int before = x.look(8 + k);
        is("text " + k + " \"" + text + "\"", tell(x, k, text), -1);
        is("fault(0) of \"" + text + "\"", x.fault(0), fault);
        is("fault(1) of \"" + text + "\"", x.fault(1), place);
        is("the tape behind \"" + text + "\"", x.end(1), false);
        is("the lines behind \"" + text + "\"", x.look(8 + k), before);
    }

    static void close(String name) {
        String held = sentences == 0 ? "" : " to " + sentences + " sentences";
        System.out.println(name + ": " + asked + " answers" + held + ", " + wrong + " wrong");
        if (wrong != 0) {
            System.exit(1);
        }
    }
}
