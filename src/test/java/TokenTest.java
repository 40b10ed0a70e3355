/** Promise 5: lines, blanks, and the tokens. */
public final class TokenTest {
    public static void main(String[] args) {
        blanksAndComments();
        names();
        numbers();
        characters();
        strings();
        registers();
        Bench.finish();
    }

    private static void blanksAndComments() {
        Bench.words("", new int[0]);
        Bench.words("\n\n \t\r\n# all\n#\n", new int[0]);
        Bench.words("nop", 19);
        Bench.words("nop\nnop", 19, 19);
        Bench.words("  nop\t\r\n\r\n\tnop#x\n", 19, 19);
        Bench.words("\ta : b:c :add\tx1 , x2,x3 # \" ' \\ @", 0x003100b3);
        Bench.words("addi x1,x2,-5#6", 0xffb10093);
        Bench.words("a: b:\nc:\n.word a, b, c", 0, 0, 0);
    }

    private static void names() {
        String longest = Bench.times("n", 32);
        Bench.words(longest + ": .word " + longest + "+1", 1);
        Bench.words("_: ._: a.b: A9_: .9: ..: .word _, ._, a.b, A9_, .9, ..", 0, 0, 0, 0, 0, 0);
        Bench.words("nop\nadd: .word: .word add, .word", 19, 4, 4);
        Bench.words("nop\na: A: .word a+A", 19, 8);
        Bench.words("nop\n.equ a,5\n.word .-a, .+a, 3+.", 19, -1, 9, 7);
        Bench.words("nop\nhi: lo: .word %hi(hi), lo%hi, 5%lo", 19, 0, 0, 1);
    }

    private static void numbers() {
        Bench.words(".word 0, 00, 007, 10, 2147483647, 2147483648", 0, 0, 7, 10, Integer.MAX_VALUE, Integer.MIN_VALUE);
        Bench.words(".word 4294967295, 4294967296, 4294967297, 99999999999999999999", -1, 0, 1, 1661992959);
        Bench.words(".word 0x0, 0xaF, 0xFFFFFFFF, 0x100000001, 0x123456789abcdef0", 0, 175, -1, 1, 0x9abcdef0);
        Bench.words(".word 0x00000000000000000000000000000000001", 1);
    }

    private static void characters() {
        Bench.bytes(".byte ' ', '~', 'a', '\"', '#', ',', ':'", 32, 126, 97, 34, 35, 44, 58);
        Bench.bytes(".byte '\\n', '\\t', '\\0', '\\\\', '\\'', '\\\"' # x", 10, 9, 0, 92, 39, 34);
        Bench.bytes(".byte 'a'+'b'-'c','a'*2", 96, 194);
    }

    private static void strings() {
        Bench.bytes(".ascii \"\"");
        Bench.bytes(".asciz \"\"", 0);
        Bench.bytes(".ascii \"ab # '~ \"# x", 97, 98, 32, 35, 32, 39, 126, 32);
        Bench.bytes(".asciz\"\\n\\t\\0\\\\\\'\\\"n\"", 10, 9, 0, 92, 39, 34, 110, 0);
    }

    private static void registers() {
        String[] names = {"zero", "ra", "sp", "gp", "tp", "t0", "t1", "t2", "s0", "s1", "a0", "a1", "a2", "a3", "a4",
            "a5", "a6", "a7", "s2", "s3", "s4", "s5", "s6", "s7", "s8", "s9", "s10", "s11", "t3", "t4", "t5", "t6"};
        for (int i = 0; i < 32; i++) {
            Bench.words("mv " + names[i] + ", x" + i, 19 | i << 7 | i << 15);
            Bench.refused(names[i] + ": nop", 1, 0, 2);
            Bench.refused("x" + i + ": nop", 1, 0, 2);
        }
        Bench.words("mv fp, s0", 19 | 8 << 7 | 8 << 15);
        Bench.refused("fp: nop", 1, 0, 2);
        for (String none : new String[] {"x32", "x00", "x01", "x", "x100", "X1", "a8", "a00", "s12", "s01", "t7", "t", "r",
            "ra0", "zer", "zeros", "Zero", "pc", "np", "ap", "p", "f0", "ft0", "sp.", "x1_", "x4294967296", "_1"}) {
            Bench.refused("mv x1, " + none, 1, 7, 1);
            Bench.words(none + ": nop", 19);
        }
    }
}
