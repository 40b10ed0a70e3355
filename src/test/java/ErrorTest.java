/** Promise 6: error; the kinds, their places, and which comes first. */
public final class ErrorTest {
    private static final String LONG = Bench.times("n", 33);

    public static void main(String[] args) {
        bytes();
        tokensInside();
        tokensThere();
        missing();
        longNames();
        brackets();
        takenNames();
        statements();
        early();
        earlyDivisions();
        bytesAndAlignment();
        secondTime();
        orderInLine();
        orderOfLines();
        Bench.finish();
    }

    private static void bytes() {
        for (char c : "@!$;<=>?[]\\`{}\"'\u0000\u0001\u001f\u007f\u0080\u00ff".toCharArray()) {
            Bench.refused("nop\n a: " + c + "nop", 2, 4, 1);
            Bench.refused("nop " + c, 1, 4, 1);
            Bench.refused("add x1, " + c + "x2, x3", 1, 8, 1);
        }
        Bench.refused("5", 1, 0, 1);
        Bench.refused(": nop", 1, 0, 1);
        Bench.refused(". word 5", 1, 0, 1);
        Bench.refused("a: . ", 1, 3, 1);
        Bench.refused("nop\u000b", 1, 3, 1);
    }

    /** A token that goes wrong in itself, where it could be. */
    private static void tokensInside() {
        Bench.refused(".word 0x", 1, 8, 1);
        Bench.refused(".word 0xg", 1, 8, 1);
        Bench.refused(".word 0x ", 1, 8, 1);
        Bench.refused(".word 0x#", 1, 8, 1);
        Bench.refused(".word 1 < 2", 1, 9, 1);
        Bench.refused(".word 1 <", 1, 9, 1);
        Bench.refused(".word 1 >+ 2", 1, 9, 1);
        Bench.refused(".word 1 <> 2", 1, 9, 1);
        Bench.refused(".word 1 <<< 2", 1, 10, 1);
        Bench.refused(".byte '", 1, 7, 1);
        Bench.refused(".byte ''", 1, 7, 1);
        Bench.refused(".byte 'ab'", 1, 8, 1);
        Bench.refused(".byte 'a", 1, 8, 1);
        Bench.refused(".byte '#", 1, 8, 1);
        Bench.refused(".byte 'a#'", 1, 8, 1);
        Bench.refused(".byte '\t'", 1, 7, 1);
        Bench.refused(".byte '\u007f'", 1, 7, 1);
        Bench.refused(".byte '\\", 1, 8, 1);
        Bench.refused(".byte '\\r'", 1, 8, 1);
        Bench.refused(".byte '\\n", 1, 9, 1);
        Bench.refused(".byte '\\nn'", 1, 9, 1);
        Bench.refused(".ascii \"ab", 1, 10, 1);
        Bench.refused(".ascii \"ab # x ", 1, 15, 1);
        Bench.refused(".ascii \"ab\r\n.byte 1", 1, 10, 1);
        Bench.refused(".ascii \"a\tb\"", 1, 9, 1);
        Bench.refused(".ascii \"a\u00e9b\"", 1, 9, 1);
        Bench.refused(".ascii \"a\\xb\"", 1, 10, 1);
        Bench.refused(".ascii \"a\\", 1, 10, 1);
        Bench.refused(".ascii \"a\\\"", 1, 11, 1);
    }

    private static void tokensThere() {
        Bench.refused("nop nop", 1, 4, 1);
        Bench.refused("nop 5", 1, 4, 1);
        Bench.refused("nop: 5", 1, 5, 1);
        Bench.refused("add foo, x2, x3", 1, 4, 1);
        Bench.refused("add x1 x2, x3", 1, 7, 1);
        Bench.refused("add x1, 5, x3", 1, 8, 1);
        Bench.refused("add x1, x2, x3, x4", 1, 14, 1);
        Bench.refused("add x1, x2, \"a\"", 1, 12, 1);
        Bench.refused("add x1, x2, \"a", 1, 12, 1);
        Bench.refused("add x1, x2, 0x", 1, 12, 1);
        Bench.refused("add x1, x2 <", 1, 11, 1);
        Bench.refused("addi x1, x2, 12abc", 1, 15, 1);
        Bench.refused("addi x1, x2, 1 2", 1, 15, 1);
        Bench.refused("addi x1, x2, 0X5", 1, 14, 1);
        Bench.refused("addi x1, x2, 00x5", 1, 15, 1);
        Bench.refused("addi x1, x2, 5.", 1, 14, 1);
        Bench.refused("addi x1, x2, *5", 1, 13, 1);
        Bench.refused("addi x1, x2, 5 ~ 6", 1, 15, 1);
        Bench.refused("addi x1, x2, (5", 1, 15, 1);
        Bench.refused("addi x1, x2, (5]", 1, 15, 1);
        Bench.refused("addi x1, x2, 5)", 1, 14, 1);
        Bench.refused("addi x1, x2, ()", 1, 14, 1);
        Bench.refused("addi x1, x2, \"5\"", 1, 13, 1);
        Bench.refused("addi x1, x2, <<5", 1, 13, 1);
        Bench.refused("addi x1, x2, %5", 1, 14, 1);
        Bench.refused("addi x1, x2, %ha(5)", 1, 14, 1);
        Bench.refused("addi x1, x2, %hi 5", 1, 17, 1);
        Bench.refused("addi x1, x2, 5 %hi(5)", 1, 18, 1);
        Bench.refused("addi x1, x2, foo(5)", 1, 16, 1);
        Bench.refused("lw x1, (x2)(x3)", 1, 11, 1);
        Bench.refused("lw x1, (x2+4)(x3)", 1, 10, 1);
        Bench.refused("lw x1, 4(5)", 1, 9, 1);
        Bench.refused("lw x1, 4(foo)", 1, 9, 1);
        Bench.refused("lw x1, 4[x2]", 1, 8, 1);
        Bench.refused("jalr x1, x2, 4", 1, 11, 1);
        Bench.refused("jalr 5", 1, 5, 1);
        Bench.refused("jalr x1 x2", 1, 8, 1);
        Bench.refused("jal 5, 6", 1, 5, 1);
        Bench.refused("jr 4(x1)", 1, 3, 1);
        Bench.refused(".word 1,,2", 1, 8, 1);
        Bench.refused(".byte \"a\"", 1, 6, 1);
        Bench.refused(".ascii 'a'", 1, 7, 1);
        Bench.refused(".ascii \"a\", \"b\"", 1, 10, 1);
        Bench.refused(".equ 5, 5", 1, 5, 1);
        Bench.refused(".equ k 5", 1, 7, 1);
        Bench.refused(".equ ., 5", 1, 5, 1);
        Bench.refused(".globl 5", 1, 7, 1);
        Bench.refused(".globl a, b", 1, 8, 1);
        Bench.refused(".text 5", 1, 6, 1);
        Bench.refused(".data .text", 1, 6, 1);
        Bench.refused(".space 1, 2", 1, 8, 1);
    }

    private static void missing() {
        Bench.refused("add", 1, 3, 1);
        Bench.refused("nop\n add  # x", 2, 6, 1);
        Bench.refused("add x1, x2  ", 1, 12, 1);
        Bench.refused("add x1, x2\r\n", 1, 11, 1);
        Bench.refused("add x1,# x2", 1, 7, 1);
        Bench.refused("addi x1, x2,", 1, 12, 1);
        Bench.refused("addi x1, x2, -", 1, 14, 1);
        Bench.refused("addi x1, x2, 5 + # x", 1, 17, 1);
        Bench.refused("addi x1, x2, (5+6 ", 1, 18, 1);
        Bench.refused("addi x1, x2, %", 1, 14, 1);
        Bench.refused("addi x1, x2, %lo", 1, 16, 1);
        Bench.refused("lw x1, 4", 1, 8, 1);
        Bench.refused("lw x1, 4(", 1, 9, 1);
        Bench.refused("lw x1, (x2", 1, 10, 1);
        Bench.refused("jal", 1, 3, 1);
        Bench.refused("jal x1", 1, 6, 1);
        Bench.refused("jal x1,", 1, 7, 1);
        Bench.refused("jalr", 1, 4, 1);
        Bench.refused("jalr x1,", 1, 8, 1);
        Bench.refused(".word", 1, 5, 1);
        Bench.refused(".word 1,", 1, 8, 1);
        Bench.refused(".ascii", 1, 6, 1);
        Bench.refused(".space", 1, 6, 1);
        Bench.refused(".equ", 1, 4, 1);
        Bench.refused(".equ k", 1, 6, 1);
        Bench.refused(".equ k,", 1, 7, 1);
        Bench.refused(".globl", 1, 6, 1);
    }

    private static void longNames() {
        Bench.refused(LONG, 1, 32, 1);
        Bench.refused(LONG + ": nop", 1, 32, 1);
        Bench.refused(" a: " + LONG + " 5", 1, 36, 1);
        Bench.refused("mv " + LONG + ", x2", 1, 35, 1);
        Bench.refused("mv x1, " + LONG, 1, 39, 1);
        Bench.refused(".word 1+" + LONG, 1, 40, 1);
        Bench.refused(".word %" + LONG + "(5)", 1, 39, 1);
        Bench.refused(".equ " + LONG + ", 5", 1, 37, 1);
        Bench.refused(".equ k, " + LONG, 1, 40, 1);
        Bench.refused(".globl " + LONG, 1, 39, 1);
        Bench.refused("jal " + LONG, 1, 36, 1);
        Bench.refused("lw x1, (" + LONG + ")", 1, 40, 1);
        Bench.refused("lw x1, 4(" + LONG + ")", 1, 41, 1);
        Bench.refused("nop " + LONG, 1, 4, 1);
        Bench.refused("mv x1 " + LONG, 1, 6, 1);
        Bench.refused(".word 5 " + LONG, 1, 8, 1);
        Bench.refused(".ascii " + LONG, 1, 7, 1);
        Bench.refused(LONG.substring(1), 1, 0, 3);
    }

    private static void brackets() {
        String open = Bench.times("(", 17);
        Bench.refused(".word " + open + "1" + Bench.times(")", 17), 1, 22, 1);
        Bench.refused(".word " + open, 1, 22, 1);
        Bench.refused(".word (1)+" + Bench.times("( ", 16) + "%lo (1", 1, 46, 1);
        Bench.refused(".word " + Bench.times("%hi(", 17), 1, 6 + 4 * 16 + 3, 1);
        Bench.refused("lw x1, " + Bench.times("(", 16) + "(x1)", 1, 23, 1);
        Bench.refused(".word " + Bench.times("(", 16) + "%lo 5", 1, 26, 1);
    }

    private static void takenNames() {
        Bench.refused("a: nop\nb: a: nop", 2, 3, 2);
        Bench.refused("a: a:", 1, 3, 2);
        Bench.refused("a: .equ a, 5", 1, 8, 2);
        Bench.refused(".equ a, 5\na:", 2, 0, 2);
        Bench.refused(".equ a, 5\n.equ a, 5", 2, 5, 2);
        Bench.refused(".equ a0, 5", 1, 5, 2);
        Bench.refused(".data\na0: nop", 2, 0, 2);
        Bench.refused("a:\n.data\na:", 3, 0, 2);
    }

    private static void statements() {
        Bench.refused("foo", 1, 0, 3);
        Bench.refused("foo @", 1, 0, 3);
        Bench.refused("a: b: ADD x1, x2, x3", 1, 6, 3);
        Bench.refused("x1", 1, 0, 3);
        Bench.refused("\t.Word 5", 1, 1, 3);
        Bench.refused(".5", 1, 0, 3);
        Bench.refused("..", 1, 0, 3);
        Bench.refused("jal.+8", 1, 0, 3);
        for (String none : new String[] {"ad", "addd", "adda", "a", "z", "_", "xor_", ".tex", ".texts", "nopp", "b",
            "jalrr", "lwu", "ld", "sd", "xorii", ".wor", ".alig", "beqzz", "tail", "csrr"}) {
            Bench.refused("nop\n" + none + " 1", 2, 0, 3);
        }
    }

    private static void early() {
        for (String statement : new String[] {".space ", ".align ", ".equ k,"}) {
            Bench.refused(statement + "nowhere", 1, 7, 4);
            Bench.refused(statement + ".", 1, 7, 4);
            Bench.refused(statement + "x1", 1, 7, 4);
            Bench.refused(statement + "2*(3+later)\n.equ later, 1", 1, 12, 4);
            Bench.refused("a: " + statement + "a", 1, 10, 4);
            Bench.refused("a:\n" + statement + "1-a", 2, 9, 4);
            Bench.refused(statement + "1/(0*a)", 1, 12, 4);
            Bench.refused(statement + "a @", 1, 7, 4);
        }
        Bench.refused(".equ k, k", 1, 8, 4);
    }

    private static void earlyDivisions() {
        for (String statement : new String[] {".space ", ".align ", ".equ k,"}) {
            Bench.refused(statement + "1/0", 1, 8, 5);
            Bench.refused(statement + "1 % 0", 1, 9, 5);
            Bench.refused(statement + "1/-0*2", 1, 8, 5);
            Bench.refused(statement + "1/(2-2)", 1, 8, 5);
            Bench.refused(statement + "1/(2/0)", 1, 11, 5);
            Bench.refused(statement + "1/0 @", 1, 8, 5);
            Bench.refused(statement + "1/0 <", 1, 8, 5);
            Bench.refused(statement + "1/0a", 1, 8, 5);
            Bench.refused(statement + "1/0/a", 1, 8, 5);
            Bench.refused(statement + "1/%lo(4096)", 1, 8, 5);
            Bench.refused(statement + "1/(0 @)", 1, 12, 1);
            Bench.refused(statement + "1/(0", 1, 11, 1);
            Bench.refused(statement + "1/0x", 1, 11, 1);
            Bench.refused(statement + "1/", 1, 9, 1);
            Bench.refused(statement + "1/-", 1, 10, 1);
        }
        Bench.refused(".equ z, 0\n.equ k, 1%z", 2, 9, 5);
    }

    private static void bytesAndAlignment() {
        Bench.refused("a: .space -1", 1, 3, 6);
        Bench.refused(".space 0x80000000", 1, 0, 6);
        Bench.refused(".space 65421", 1, 0, 6);
        Bench.refused(" .align 13", 1, 1, 6);
        Bench.refused(".align -1", 1, 0, 6);
        Bench.refused(".align 0x7fffffff", 1, 0, 6);
        Bench.refused(".byte 1\na: b: nop", 2, 6, 7);
        Bench.refused(".half 1\nli x1, 5", 2, 0, 7);
        Bench.refused("nop\n.data\n.byte 1\nret", 4, 0, 7);
        Bench.refused(".space 65419\nnop", 2, 0, 7);
        Bench.refused(".byte 1\nadd x1, x2", 2, 10, 1);
        Bench.refused(".byte 1\nnop 5", 2, 4, 1);
        Bench.refused(".space -1 @", 1, 10, 1);
        Bench.refused(".align 13,", 1, 9, 1);
        Bench.words(".byte 1\n.data\nnop\n.text\n.byte 2, 3, 4\nnop", 0x04030201, 19, 19);
    }

    private static void secondTime() {
        Bench.refused("j nowhere", 1, 2, 8);
        Bench.refused("nop\n.word 5, 6*(2+b)", 2, 14, 8);
        Bench.refused("addi x1, x2, x3", 1, 13, 8);
        Bench.refused("j x5", 1, 2, 8);
        Bench.refused("jal (x5)", 1, 5, 8);
        Bench.refused(".word ..", 1, 6, 8);
        Bench.refused("lw x1, x2(x3)", 1, 7, 8);
        Bench.refused(".word 1/0", 1, 7, 9);
        Bench.refused("a: .word 1, 5%(a-a)", 1, 13, 9);
        Bench.refused("li x1, 1/0", 1, 8, 9);
        Bench.refused("la x1, 1/(2/0)", 1, 11, 9);
        Bench.refused(".byte 1/b, 1/0\nb:", 1, 12, 9);
        Bench.refused(".text\na: addi x1, x1, 2048", 2, 3, 10);
        Bench.refused("beq x1, x2, a\n.space 4096\na:", 1, 0, 10);
    }

    private static void orderInLine() {
        Bench.refused("x1: a: a: foo @", 1, 0, 2);
        Bench.refused("a: a: foo @", 1, 3, 2);
        Bench.refused("a: foo @", 1, 3, 3);
        Bench.refused(".equ x1, 1/0", 1, 5, 2);
        Bench.refused(".equ k, b/0", 1, 8, 4);
        Bench.refused(".equ k, 1/0+b", 1, 9, 5);
        Bench.refused(".space b-1", 1, 7, 4);
        Bench.refused(".word 1/0, b", 1, 7, 9);
        Bench.refused(".word b, 1/0", 1, 6, 8);
        Bench.refused(".word 1/(b*0)", 1, 9, 8);
        Bench.refused("lui x1, 1048576+b", 1, 16, 8);
        Bench.refused("slli x1, x1, 32/0", 1, 15, 9);
    }

    private static void orderOfLines() {
        Bench.refused("j nowhere\naddi x1, x1, 5000\n.word 1/0\n.byte 1\nnop\n@", 5, 0, 7);
        Bench.refused("j nowhere\naddi x1, x1, 5000\nnop @", 3, 4, 1);
        Bench.refused("j nowhere\n.space 65421", 2, 0, 6);
        Bench.refused("addi x1, x1, 5000\nj nowhere\n.word 1/0", 1, 0, 10);
        Bench.refused(".word 1/0\nj nowhere", 1, 7, 9);
        Bench.refused("\n\n# x\n\nj nowhere\n", 5, 2, 8);
        Bench.refused("foo\n@", 1, 0, 3);
    }
}
