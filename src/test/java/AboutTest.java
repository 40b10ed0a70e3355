/** Promise 8: about; and promise 6's 0 where nothing was thrown. */
public final class AboutTest {
    public static void main(String[] args) {
        numbers();
        latest();
        Bench.finish();
    }

    private static void about(String text, int size, int ofText, int ofData, int symbols) {
        CodeSmith smith = Bench.made(text);
        Bench.due(text + ": about(0)", smith.about(0), size);
        Bench.due(text + ": about(1)", smith.about(1), ofText);
        Bench.due(text + ": about(2)", smith.about(2), ofData);
        Bench.due(text + ": about(3)", smith.about(3), symbols);
        for (int what : new int[] {-1, 4, 5, Integer.MIN_VALUE, Integer.MAX_VALUE}) {
            Bench.due(text + ": about(" + what + ")", smith.about(what), -1);
            Bench.due(text + ": error(" + what + ")", smith.error(what), 0);
        }
    }

    private static void numbers() {
        about("", 84, 0, 0, 0);
        about("nop", 88, 4, 0, 0);
        about(".data\n.byte 1\na: b: .equ c, 1\n.globl d\n.text\nnop\ne:", 121, 4, 1, 4);
        about(".data", 84, 0, 0, 0);
        StringBuilder many = new StringBuilder();
        for (int i = 0; i < 900; i++) {
            many.append("l").append(i).append(":\n");
        }
        about(many + ".word l0, l899", 92, 8, 0, 900);
        Bench.refused(many + "l577: nop", 901, 0, 2);
    }

    private static void latest() {
        CodeSmith smith = new CodeSmith();
        Bench.feed(smith, "a: b: .byte 1,");
        Bench.due("assemble", Bench.assemble(smith), -1);
        for (int what = 0; what <= 3; what++) {
            Bench.due("about(" + what + ") without an image", smith.about(what), 0);
        }
        Bench.due("about(4) without an image", smith.about(4), -1);
        Bench.due("error(0)", smith.error(0), 1);
        Bench.due("error(1)", smith.error(1), 14);
        Bench.due("error(2)", smith.error(2), 1);
        Bench.due("error(3)", smith.error(3), 0);
        Bench.due("error(-1)", smith.error(-1), 0);
        Bench.feed(smith, "nop");
        Bench.due("error(1) before the next assemble", smith.error(1), 14);
        Bench.due("assemble", Bench.assemble(smith), 88);
        Bench.due("error(0)", smith.error(0), 0);
        Bench.due("error(1)", smith.error(1), 0);
        Bench.due("error(2)", smith.error(2), 0);
        Bench.due("about(3)", smith.about(3), 0);
        Bench.due("assemble of nothing", Bench.assemble(smith), 84);
        Bench.due("about(1)", smith.about(1), 0);
    }
}
