/** Promise 5: labels, sections, addresses and directives. */
public final class DirectiveTest {
    public static void main(String[] args) {
        data();
        spaceAndAlign();
        sections();
        labels();
        limits();
        Bench.finish();
    }

    private static void data() {
        Bench.bytes(".byte 1, 256, -1, 0x1234\n.half 0x123456, -2\n.word 0x12345678",
            1, 0, 255, 0x34, 0x56, 0x34, 254, 255, 0x78, 0x56, 0x34, 0x12);
        Bench.bytes(".byte 1\n.word 2\n.half 3", 1, 2, 0, 0, 0, 3, 0);
        Bench.bytes(".byte 9\nb: .word ., b, .+1\n.byte .", 9, 1, 0, 0, 0, 1, 0, 0, 0, 2, 0, 0, 0, 13);
        Bench.bytes(".equ k, 7\n.globl k\n.globl nowhere\n.globl x1\n.globl .byte\n.byte k", 7);
    }

    private static void spaceAndAlign() {
        Bench.bytes(".byte 1\n.space 3\n.byte 2", 1, 0, 0, 0, 2);
        Bench.bytes(".space 0\n.byte 2", 2);
        Bench.bytes(".space 1|2\n.align 2|0\n.byte 2", 0, 0, 0, 0, 2);
        Bench.bytes(".byte 1\n.align 0\n.byte 2\n.align 1\n.byte 3\n.align 2\n.byte 4\n.align 3\n.align 3\n.byte 5",
            1, 2, 3, 0, 4, 0, 0, 0, 5);
        Bench.bytes(".equ k, 1\n.byte 1\n.align k+k-1\n.space k*2\nb: .byte b", 1, 0, 0, 0, 4);
        CodeSmith smith = Bench.made(".byte 1\n.align 12\na: .word a\n.data\n.byte 1\n.align 12\nb: .word b");
        Bench.due(".text", smith.about(1), 4100);
        Bench.due(".data", smith.about(2), 4100);
        Bench.due("a", Bench.number(smith, 116 + 4096, 4), 4096);
        Bench.due("b", Bench.number(smith, 116 + 4100 + 4096, 4), 8192 + 4096);
        Bench.due("padding", Bench.number(smith, 116 + 4092, 4), 0);
    }

    private static void sections() {
        Bench.words(".data\n.word 1\n.text\n.word 2\n.data\n.word 3\n.text\n.word 4", 2, 4, 1, 3);
        Bench.words(".text\n.word 1\n.text\n.word 2", 1, 2);
        Bench.words(".data\nd: .word d, .\n", 0, 0);
        Bench.words(".data\nd: .word d\ne: .word e-d, .\n.text\nnop", 19, 4096, 4, 4100);
        Bench.words(".data\nnop\nb: j b", 19, 0x0000006f);
        Bench.bytes(".data\n.byte 1\n.text\nnop\n.half -1\n.byte -1, 5", 19, 0, 0, 0, 255, 255, 255, 5, 1);
        CodeSmith smith = Bench.made(".space 4096\n.data\nd: .word d");
        Bench.due("d", Bench.number(smith, 116 + 4096, 4), 4096);
        smith = Bench.made(".space 4097\n.data\nd: .word d");
        Bench.due("d", Bench.number(smith, 116 + 4097, 4), 8192);
    }

    private static void labels() {
        Bench.words("nop\na: .data\nb: .word a, b, c\n.text\nnop\nc:", 19, 19, 4, 4096, 8);
        Bench.words("nop\n.data\na: .text\nb: .word a, b", 19, 4096, 4);
        Bench.words(".byte 1\na: .align 2\nb: .word a, b", 1, 1, 4);
        Bench.words("a: b: .equ k, 3\n.word a+b+k", 3);
    }

    private static void limits() {
        CodeSmith smith = Bench.made(".space 65420");
        Bench.due("size", smith.about(0), 65504);
        smith = Bench.made(".byte 1\n.space 65417\n.data\na: .byte 2, a>>8");
        Bench.due("size", smith.about(0), 65536);
        Bench.due("last byte but one", smith.image(65534), 2);
        Bench.due("last byte", smith.image(65535), 0);
        Bench.due("behind", smith.image(65536), -1);
        Bench.due("address of .data", Bench.number(smith, 84 + 8, 4), 65536);
        Bench.refused(".byte 1\n.space 65417\n.data\na: .byte 2, 3, 4", 4, 3, 6);
        Bench.refused(".space 65421", 1, 0, 6);
        Bench.refused(".space 65420\nnop", 2, 0, 6);
        Bench.refused(".space 65416\nnop\n.align 12", 3, 0, 6);
        Bench.refused(".space 65416\nla x1, 5", 2, 0, 6);
        Bench.refused(".space 65416\nli x1, 4096", 2, 0, 6);
        Bench.refused(".space 65416\nli x1, 1/0", 2, 0, 6);
        Bench.words(".space 0\nli x1, 5", 0x00500093);
        Bench.refused(".space 65417\n.asciz \"abc\"", 2, 0, 6);
        Bench.made(".space 65416\nli x1, 5");
        Bench.made(".space 65412\nla x1, 5");
        Bench.made(".space 65416\n.asciz \"abc\"");
    }
}
