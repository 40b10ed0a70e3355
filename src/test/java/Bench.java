import java.nio.charset.StandardCharsets;
import java.util.Arrays;

/** What the tests share: feeding texts, comparing answers, and telling at the end whether all were due. */
final class Bench {
    static final int HEAD_OF_ONE = 84;
    static final int HEAD_OF_TWO = 116;

    private static int checks;
    private static int wrong;

    private Bench() {
    }

    static void due(String what, long got, long want) {
        checks++;
        if (got != want) {
            wrong++;
            System.out.println(show(what) + " answered " + got + ", due is " + want);
        }
    }

    static void due(String what, boolean got, boolean want) {
        due(what, got ? 1 : 0, want ? 1 : 0);
    }

    /** Ends the test; exit code 1 if an answer was not due. */
    static void finish() {
        System.out.println(checks + " answers, " + wrong + " of them not as due");
        if (wrong != 0 || checks == 0) {
            System.exit(1);
        }
    }

    static void feed(CodeSmith smith, byte[] text) {
        byte[] padded = Arrays.copyOf(text, (text.length + 19) / 20 * 20);
        int before = smith.size();
        for (int at = 0; at < padded.length; at += 20) {
            int[] words = new int[5];
            for (int i = 0; i < 20; i++) {
                words[i / 4] = words[i / 4] << 8 | padded[at + i] & 255;
            }
            due("feed", smith.feed(words[0], words[1], words[2], words[3], words[4]), true);
        }
        due("end", smith.end(before + text.length), true);
    }

    static void feed(CodeSmith smith, String text) {
        feed(smith, text.getBytes(StandardCharsets.ISO_8859_1));
    }

    /** The size of the image, or -1 if assemble threw what the document says. */
    static int assemble(CodeSmith smith) {
        try {
            return smith.assemble();
        } catch (IllegalArgumentException refused) {
            return refused.getClass() == IllegalArgumentException.class ? -1 : -2;
        }
    }

    /** A new object that has made an image of the text. */
    static CodeSmith made(String text) {
        CodeSmith smith = new CodeSmith();
        feed(smith, text);
        int size = assemble(smith);
        if (size < 0) {
            due(text + " is refused in line " + smith.error(0) + " at " + smith.error(1) + " as "
                + smith.error(2) + "; its size", size, 0);
        }
        due(text + ": size of its image", size, smith.about(0));
        due(text + ": kind of error", smith.error(2), 0);
        return smith;
    }

    /** The text must be refused there, for that. */
    static void refused(String text, int line, int place, int kind) {
        CodeSmith smith = new CodeSmith();
        feed(smith, text);
        due(text + ": assemble", assemble(smith), -1);
        due(text + ": line", smith.error(0), line);
        due(text + ": place", smith.error(1), place);
        due(text + ": kind", smith.error(2), kind);
        due(text + ": tape", smith.size(), 0);
    }

    static int number(CodeSmith smith, int place, int width) {
        int number = 0;
        for (int i = width - 1; i >= 0; i--) {
            number = number << 8 | smith.image(place + i);
        }
        return number;
    }

    /** The text makes just these bytes, in .text and then in .data. */
    static void bytes(String text, int... want) {
        CodeSmith smith = made(text);
        int head = smith.about(2) > 0 ? HEAD_OF_TWO : HEAD_OF_ONE;
        due(text + ": bytes", smith.about(1) + smith.about(2), want.length);
        for (int i = 0; i < want.length; i++) {
            due(text + ": byte " + i, smith.image(head + i), want[i]);
        }
    }

    /** The text makes just these words, in .text and then in .data. */
    static void words(String text, int... want) {
        CodeSmith smith = made(text);
        int head = smith.about(2) > 0 ? HEAD_OF_TWO : HEAD_OF_ONE;
        due(text + ": bytes", smith.about(1) + smith.about(2), want.length * 4L);
        for (int i = 0; i < want.length; i++) {
            due(text + ": word " + i, number(smith, head + 4 * i, 4), want[i]);
        }
    }

    static String times(String part, int n) {
        return part.repeat(n);
    }

    private static String show(String text) {
        String plain = text.replace("\n", "\\n").replace("\r", "\\r").replace("\t", "\\t");
        return plain.length() > 200 ? plain.substring(0, 80) + " .. " + plain.substring(plain.length() - 80) : plain;
    }
}
