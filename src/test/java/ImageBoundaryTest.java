/** Boundary cases of promises 7 and 8, of what assemble answers, and of 512 calls; a method for each sentence. */
public final class ImageBoundaryTest {
    public static void main(String[] args) {
        noByteThere();
        bytesWithoutSign();
        dataOnlyWithBytes();
        entries();
        imageBeforeStays();
        anotherWhat();
        countsNames();
        largerAndSmaller();
        lastOfAllCalls();
        manyTexts();
        Bench.finish();
    }

    /** "Byte k of the image; NONE if there is none." */
    private static void noByteThere() {
        String[] texts = {"", ".byte 1", "nop", ".data\n.byte 1", ".space 65420", ".data\n.space 65420"};
        int[] sizes = {84, 85, 88, 117, 65504, 65536};
        CodeSmith one = new CodeSmith();
        for (int i = 0; i < texts.length; i++) {
            Bench.feed(one, texts[i]);
            Bench.due("assemble", Bench.assemble(one), sizes[i]);
            edges(one, sizes[i]);
            CodeSmith another = Bench.made(texts[i]);
            Bench.due("size", another.about(0), sizes[i]);
            edges(another, sizes[i]);
        }
        for (int i = texts.length - 1; i >= 0; i--) {
            Bench.feed(one, texts[i]);
            Bench.due("assemble", Bench.assemble(one), sizes[i]);
            edges(one, sizes[i]);
        }
    }

    private static void edges(CodeSmith smith, int size) {
        Bench.due("first byte", smith.image(0), 127);
        Bench.due("last byte", smith.image(size - 1) >= 0, true);
        for (int k : new int[] {size, size + 1, 65536, 65537, Integer.MAX_VALUE, -1, -2, Integer.MIN_VALUE}) {
            Bench.due("image(" + k + ") of " + size, smith.image(k), -1);
        }
    }

    private static void bytesWithoutSign() {
        CodeSmith smith = Bench.made(".byte 127, 128, 255, -1, -128\n.data\n.word -1");
        int[] want = {127, 128, 255, 255, 128, 255, 255, 255, 255};
        for (int i = 0; i < want.length; i++) {
            Bench.due("byte " + i, smith.image(116 + i), want[i]);
        }
    }

    /** ".data is a part only if it has bytes; .text always." */
    private static void dataOnlyWithBytes() {
        for (String none : new String[] {"", ".data", ".data\na:", ".data\n.space 0", ".data\n.ascii \"\"",
            ".data\n.align 12", ".data\n.equ k, 1"}) {
            CodeSmith smith = Bench.made(none);
            Bench.due(none + ": parts", Bench.number(smith, 44, 2), 1);
            Bench.due(none + ": size", smith.about(0), 84);
            Bench.due(none + ": flags", Bench.number(smith, 76, 4), 5);
        }
        for (String some : new String[] {".data\n.space 1", ".data\n.asciz \"\"", ".data\n.byte 0"}) {
            CodeSmith smith = Bench.made(some);
            Bench.due(some + ": parts", Bench.number(smith, 44, 2), 2);
            Bench.due(some + ": size", smith.about(0), 117);
            Bench.due(some + ": begin of .text", Bench.number(smith, 56, 4), 116);
            Bench.due(some + ": size of .text", Bench.number(smith, 68, 4), 0);
            Bench.due(some + ": begin of .data", Bench.number(smith, 88, 4), 116);
            Bench.due(some + ": address of .data", Bench.number(smith, 92, 4), 0);
            Bench.due(some + ": size of .data", Bench.number(smith, 100, 4), 1);
            Bench.due(some + ": flags of .data", Bench.number(smith, 108, 4), 6);
        }
    }

    /** "the ENTRY: the value of the label start, or 0 without it". */
    private static void entries() {
        entry("", 0);
        entry("nop\nstart:", 4);
        entry("start:\nnop", 0);
        entry("nop\nStart: start_: .start: star:", 0);
        entry("nop\n.equ start, 4", 0);
        entry("nop\n.globl start", 0);
        entry(".byte 1\nstart:", 1);
        entry(".data\nstart:", 0);
        entry("nop\n.data\nstart:", 4096);
        entry(".data\nstart:\n.text\n.space 4097", 8192);
        entry(".space 65420\nstart:", 65420);
        entry(".space 61441\n.data\n.space 3979\nstart:", 65536 + 3979);
    }

    private static void entry(String text, int value) {
        Bench.due(text + ": entry", Bench.number(Bench.made(text), 24, 4), value);
    }

    /** "IllegalArgumentException if it has an error (the image before stays)." */
    private static void imageBeforeStays() {
        String[] wrong = {"@", "x1:", "foo", ".space a", ".space 1/0", ".space -1", ".byte 1\nnop", "j nowhere", ".word 1/0",
            "addi x1, x1, 5000", "a: b: c: nop\n.space 60000\n.data\n.word 1\nj nowhere"};
        CodeSmith smith = Bench.made("start: a: .byte 1, 2, 3");
        for (int i = 0; i < wrong.length; i++) {
            Bench.feed(smith, wrong[i]);
            Bench.due(wrong[i] + ": assemble", Bench.assemble(smith), -1);
            Bench.due(wrong[i] + ": kind", smith.error(2), i < 10 ? i + 1 : 8);
            Bench.due(wrong[i] + ": about(0)", smith.about(0), 87);
            Bench.due(wrong[i] + ": about(1)", smith.about(1), 3);
            Bench.due(wrong[i] + ": about(2)", smith.about(2), 0);
            Bench.due(wrong[i] + ": about(3)", smith.about(3), 2);
            Bench.due(wrong[i] + ": parts", smith.image(44), 1);
            for (int k = 0; k < 3; k++) {
                Bench.due(wrong[i] + ": byte " + k, smith.image(84 + k), k + 1);
            }
            Bench.due(wrong[i] + ": behind", smith.image(87), -1);
        }
    }

    /** "NONE for another what; 0 without one." */
    private static void anotherWhat() {
        CodeSmith without = new CodeSmith();
        Bench.feed(without, "a: @");
        Bench.due("assemble", Bench.assemble(without), -1);
        CodeSmith with = Bench.made("a: nop\n.data\n.byte 1");
        int[] want = {121, 4, 1, 1};
        for (int what = 0; what < 4; what++) {
            Bench.due("about(" + what + ")", with.about(what), want[what]);
            Bench.due("about(" + what + ") without an image", without.about(what), 0);
        }
        for (int what : new int[] {-1, 4, 5, Integer.MIN_VALUE, Integer.MAX_VALUE}) {
            Bench.due("about(" + what + ")", with.about(what), -1);
            Bench.due("about(" + what + ") without an image", without.about(what), -1);
        }
    }

    /** "how many labels and constants the text had": none, and more than any row is long at first. */
    private static void countsNames() {
        for (int count : new int[] {0, 1, 15, 16, 17, 31, 32, 33, 255, 256, 257, 1500}) {
            StringBuilder text = new StringBuilder();
            StringBuilder values = new StringBuilder();
            for (int i = 0; i < count; i++) {
                text.append(i % 2 == 0 ? "n" + i + ":\n" : ".equ n" + i + "," + i + "\n");
            }
            values.append(count > 1 ? ".byte n0, n1, n" + (count - 1) : ".byte 0, 0, 0");
            CodeSmith smith = Bench.made(text.toString() + values);
            Bench.due(count + " names", smith.about(3), count);
            Bench.due("last of " + count, smith.image(86), count > 1 && count % 2 == 0 ? count - 1 & 255 : 0);
            if (count > 0) {
                Bench.refused(text + "n" + (count - 1) + ":", count + 1, 0, 2);
                Bench.refused(text + "n0:", count + 1, 0, 2);
            }
        }
        Bench.due("globl counts nothing", Bench.made(".globl a\nnop").about(3), 0);
    }

    /** An image that is larger or smaller than the one before has nothing of it. */
    private static void largerAndSmaller() {
        CodeSmith smith = new CodeSmith();
        int[] sizes = {1, 65419, 0, 40000, 300, 65419, 100, 65419, 2};
        for (int size : sizes) {
            Bench.feed(smith, "start: .byte " + (size == 300 ? 255 : 7) + "\n.space " + size);
            Bench.due("assemble", Bench.assemble(smith), 85 + size);
            int sum = 0;
            for (int k = 85; k < 85 + size; k++) {
                sum += smith.image(k);
            }
            Bench.due("bytes 0", sum, 0);
            Bench.due("behind", smith.image(85 + size), -1);
            Bench.feed(smith, ".data\n.ascii \"" + Bench.times("~", 200) + "\"");
            Bench.due("assemble", Bench.assemble(smith), 316);
            Bench.due("last byte", smith.image(315), '~');
        }
    }

    /** "An object is used for at most 512 calls": the last of them is as good as the first. */
    private static void lastOfAllCalls() {
        CodeSmith smith = new CodeSmith();
        for (int call = 1; call <= 509; call++) {
            // ".byte 1,2,3,4,5,678" and a byte 10.
            Bench.due("call " + call, smith.feed(0x2e627974, 0x6520312c, 0x322c332c, 0x342c352c, 0x3637380a), true);
        }
        Bench.due("call 510", smith.end(10180), true);
        Bench.due("call 511", Bench.assemble(smith), 84 + 6 * 509);
        Bench.due("call 512", smith.image(84 + 6 * 509 - 1), 678 & 255);
    }

    private static void manyTexts() {
        CodeSmith smith = new CodeSmith();
        for (int turn = 1; turn <= 102; turn++) {
            // ".space 20000", a byte 10 and "nop", or "noq", which is none.
            boolean right = turn % 3 != 0;
            int last = right ? 0x0a6e6f70 : 0x0a6e6f71;
            Bench.due("feed", smith.feed(0x2e737061, 0x63652032, 0x30303030, last, 0x0a0a0a0a), true);
            Bench.due("end", smith.end(16), true);
            Bench.due("assemble", Bench.assemble(smith), right ? 84 + 20004 : -1);
            Bench.due("error", smith.error(0), right ? 0 : 2);
            Bench.due("image", smith.image(84 + 20000), 19);
        }
    }
}
