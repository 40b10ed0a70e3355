/** Promise 7: image; and what assemble answers. */
public final class ImageTest {
    public static void main(String[] args) {
        onePart();
        twoParts();
        entry();
        stays();
        reused();
        Bench.finish();
    }

    private static int[] head(int entry, int parts) {
        return new int[] {127, 69, 76, 70, 1, 1, 1, 0, 0, 0, 0, 0, 0, 0, 0, 0, 2, 0, 243, 0, 1, 0, 0, 0,
            entry & 255, entry >> 8 & 255, entry >> 16 & 255, entry >>> 24, 52, 0, 0, 0, 0, 0, 0, 0, 0, 0, 0, 0,
            52, 0, 32, 0, parts, 0, 0, 0, 0, 0, 0, 0};
    }

    private static void checkHead(CodeSmith smith, int entry, int parts) {
        int[] want = head(entry, parts);
        for (int i = 0; i < 52; i++) {
            Bench.due("head, byte " + i, smith.image(i), want[i]);
        }
    }

    private static void checkPart(CodeSmith smith, int place, int begin, int address, int size, int flags) {
        int[] want = {1, begin, address, address, size, size, flags, 4096};
        for (int i = 0; i < 8; i++) {
            Bench.due("part at " + place + ", word " + i, Bench.number(smith, place + 4 * i, 4), want[i]);
        }
    }

    private static void onePart() {
        CodeSmith smith = Bench.made("");
        Bench.due("size", smith.about(0), 84);
        checkHead(smith, 0, 1);
        checkPart(smith, 52, 84, 0, 0, 5);
        Bench.due("image(84)", smith.image(84), -1);
        smith = Bench.made("nop\n.data\na:\n.space 0\n.text\n.byte 200");
        Bench.due("size", smith.about(0), 89);
        checkHead(smith, 0, 1);
        checkPart(smith, 52, 84, 0, 5, 5);
        Bench.due("image(84)", smith.image(84), 19);
        Bench.due("image(88)", smith.image(88), 200);
        Bench.due("image(89)", smith.image(89), -1);
        Bench.due("image(-1)", smith.image(-1), -1);
        Bench.due("image(MIN)", smith.image(Integer.MIN_VALUE), -1);
        Bench.due("image(MAX)", smith.image(Integer.MAX_VALUE), -1);
    }

    private static void twoParts() {
        CodeSmith smith = Bench.made(".data\n.byte 1, 2, 255\n.text\nnop\nstart: nop\n.byte 7");
        Bench.due("size", smith.about(0), 128);
        checkHead(smith, 4, 2);
        checkPart(smith, 52, 116, 0, 9, 5);
        checkPart(smith, 84, 125, 4096, 3, 6);
        Bench.due("image(116)", smith.image(116), 19);
        Bench.due("image(124)", smith.image(124), 7);
        Bench.due("image(125)", smith.image(125), 1);
        Bench.due("image(127)", smith.image(127), 255);
        Bench.due("image(128)", smith.image(128), -1);
        smith = Bench.made(".data\n.byte 1");
        checkPart(smith, 52, 116, 0, 0, 5);
        checkPart(smith, 84, 116, 0, 1, 6);
    }

    private static void entry() {
        checkHead(Bench.made("nop\nstart:"), 4, 1);
        checkHead(Bench.made("nop\nstart_: .start: Start: star: starts:"), 0, 1);
        checkHead(Bench.made("nop\n.equ start, 4"), 0, 1);
        checkHead(Bench.made(".space 0x1230\n.data\n.byte 1\nstart:"), 0x2001, 2);
        checkHead(Bench.made("nop\na: b: start: c: nop"), 4, 1);
    }

    private static void stays() {
        CodeSmith smith = Bench.made("a: b: nop\n.data\n.byte 77");
        Bench.feed(smith, "c: .byte 1,2,3\n.word nowhere");
        Bench.due("assemble", Bench.assemble(smith), -1);
        Bench.due("about(0)", smith.about(0), 121);
        Bench.due("about(1)", smith.about(1), 4);
        Bench.due("about(2)", smith.about(2), 1);
        Bench.due("about(3)", smith.about(3), 2);
        checkHead(smith, 0, 2);
        Bench.due("image(116)", smith.image(116), 19);
        Bench.due("image(120)", smith.image(120), 77);
        Bench.due("image(121)", smith.image(121), -1);
    }

    /** A smaller image behind a larger one has nothing of it left. */
    private static void reused() {
        CodeSmith smith = new CodeSmith();
        for (int turn = 0; turn < 6; turn++) {
            Bench.feed(smith, "start: .word -1, -1, -1, -1, -1, -1, -1, -1, -1, -1, -1, -1, -1, -1, -1, -1, -1, -1, -1");
            Bench.due("assemble", Bench.assemble(smith), 160);
            Bench.feed(smith, ".space " + turn + "\n.data\n.space 5\n.byte 3");
            Bench.due("assemble", Bench.assemble(smith), 122 + turn);
            checkHead(smith, 0, 2);
            for (int i = 116; i < 121 + turn; i++) {
                Bench.due("image(" + i + ")", smith.image(i), 0);
            }
            Bench.due("last", smith.image(121 + turn), 3);
            Bench.due("behind", smith.image(122 + turn), -1);
        }
    }
}
