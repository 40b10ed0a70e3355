import java.util.Random;

/** Promise 5 and 6 for texts of all kinds: only the document's exception, a place within the text, the same twice. */
public final class RobustTest {
    private static final String[] PIECES = {"add", "addi", "lw", "sw", "jal", "jalr", "li", "la", "beq", "bgtz", ".word",
        ".byte", ".ascii", ".space", ".align", ".equ", ".globl", ".data", ".text", "x1", "a0", "foo", "k", "start", ":",
        ",", "(", ")", "+", "-", "*", "/", "%", "&", "|", "^", "~", "<<", ">>", "<", "%hi", "%lo", ".", "0", "1", "2047",
        "0x", "0xff", "65420", "4294967296", "'a'", "'", "\"ab\"", "\"", "\\", "#", "\n", "\n", "\n", "\r", " ", " ", "\t",
        "@", "\u00ff", "\u0000", "nnnnnnnnnnnnnnnnnnnnnnnnnnnnnnnnn", "foo:", "nop\n", "((((((((((((((((("};

    public static void main(String[] args) {
        Random random = new Random(2026);
        CodeSmith old = new CodeSmith();
        for (int turn = 0; turn < 6000; turn++) {
            String text = turn % 3 == 0 ? noise(random) : pieces(random);
            CodeSmith fresh = new CodeSmith();
            Bench.feed(fresh, text);
            Bench.feed(old, text);
            int size = Bench.assemble(fresh);
            Bench.due(text + ": once more", Bench.assemble(old), size);
            Bench.due(text + ": what assemble did", size == -1 || size == fresh.about(0) && size >= 84, true);
            Bench.due(text + ": tape", fresh.size(), 0);
            for (int what = 0; what < 3; what++) {
                Bench.due(text + ": error " + what, old.error(what), fresh.error(what));
            }
            checkPlace(text, fresh, size);
        }
        longLines();
        Bench.finish();
    }

    private static void checkPlace(String text, CodeSmith smith, int size) {
        int line = smith.error(0);
        int place = smith.error(1);
        int kind = smith.error(2);
        if (size != -1) {
            Bench.due(text + ": no error", line == 0 && place == 0 && kind == 0, true);
            return;
        }
        String[] lines = text.split("\n", -1);
        Bench.due(text + ": kind", kind >= 1 && kind <= 10, true);
        Bench.due(text + ": place", line >= 1 && line <= lines.length && place >= 0
            && place <= lines[line - 1].length(), true);
    }

    private static String noise(Random random) {
        StringBuilder text = new StringBuilder();
        for (int n = random.nextInt(60); n > 0; n--) {
            text.append((char) random.nextInt(random.nextBoolean() ? 256 : 128));
        }
        return text.toString();
    }

    private static String pieces(Random random) {
        StringBuilder text = new StringBuilder();
        for (int n = random.nextInt(25); n > 0; n--) {
            text.append(PIECES[random.nextInt(PIECES.length)]);
            if (random.nextInt(3) != 0) {
                text.append(' ');
            }
        }
        return text.toString();
    }

    /** Lines that are as long as a run of 512 calls can make them. */
    private static void longLines() {
        Bench.words(".word " + Bench.times("-", 9000) + "5", 5);
        Bench.words(".word " + Bench.times("~", 9001) + "5", -6);
        Bench.words(".word 0" + Bench.times("+1", 4500), 4500);
        Bench.words(".word 1" + Bench.times("0", 9000), 0);
        Bench.due("labels", Bench.made(Bench.times(" ", 9000) + "a:b:").about(3), 2);
        Bench.due("text", Bench.made(".byte 0" + Bench.times(",1", 4500)).about(1), 4501);
        Bench.due("text", Bench.made(Bench.times("ret\n", 2500)).about(1), 10000);
        Bench.refused(".word " + Bench.times("(", 9000), 1, 22, 1);
        Bench.refused(Bench.times("n", 9000), 1, 32, 1);
        Bench.refused(".ascii \"" + Bench.times("n", 9000), 1, 9008, 1);
    }
}
