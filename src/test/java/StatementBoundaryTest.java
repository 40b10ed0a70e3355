/** Boundary cases of promise 5: directives, instructions, addresses; a method for each sentence. */
public final class StatementBoundaryTest {
    private static final int LIMIT = 65420;

    public static void main(String[] args) {
        lowestBytes();
        lists();
        spaces();
        zerosBehindInstructions();
        aligns();
        wrongAligns();
        earlyNames();
        everyStatementAtTheLimit();
        bothSectionsAtTheLimit();
        fullButNothingMore();
        instructionAddresses();
        branchesToLabels();
        jumpsToLabels();
        distancesWrapAround();
        shortLoads();
        registerFirst();
        dataAddresses();
        labelsAtSectionEnds();
        Bench.finish();
    }

    /** "1, 2, 4 bytes of each, the lowest first": of any int. */
    private static void lowestBytes() {
        int[] edges = {0, 1, 127, 128, 255, 256, 32767, 32768, 65535, 65536, -1, -128, -129, -32769, Integer.MAX_VALUE,
            Integer.MIN_VALUE};
        for (int e : edges) {
            Bench.bytes(".byte " + e, e & 255);
            Bench.bytes(".half " + e, e & 255, e >> 8 & 255);
            Bench.bytes(".word " + e, e & 255, e >> 8 & 255, e >> 16 & 255, e >>> 24);
        }
    }

    /** "one e or more with commas between". */
    private static void lists() {
        Bench.bytes(".byte 1", 1);
        Bench.bytes(".byte 1,2", 1, 2);
        for (String name : new String[] {".byte", ".half", ".word"}) {
            Bench.refused(name, 1, 5, 1);
            Bench.refused(name + " ,", 1, 6, 1);
            Bench.refused(name + " 1,", 1, 8, 1);
            Bench.refused(name + " 1,,2", 1, 8, 1);
            Bench.refused(name + " 1 2", 1, 8, 1);
        }
    }

    /** ".space e (so many bytes 0)": 0 .. 65,420. */
    private static void spaces() {
        for (int n : new int[] {0, 1, 4095, 4096, LIMIT - 1, LIMIT}) {
            Bench.due(".space " + n, Bench.made(".space " + n).about(1), n);
            Bench.due(".space " + n, Bench.made(".data\n.space " + n).about(2), n);
        }
        for (String n : new String[] {"-1", "65421", "65536", "0x7fffffff", "0x80000000", "0-65420"}) {
            Bench.refused("a: .space " + n, 1, 3, 6);
            Bench.refused(".data\n.space " + n, 2, 0, 6);
        }
        Bench.made(".space 4294967296");
        Bench.bytes(".byte 1\n.space 2\n.byte 3", 1, 0, 0, 3);
    }

    /** The bytes 0 are 0 whatever lies before them, and an instruction takes no byte of the other section. */
    private static void zerosBehindInstructions() {
        String[] instructions = {"add x1, x2, x3", "addi x1, x2, -1", "slli x1, x2, 31", "lw x1, -1(x2)", "sw x1, -1(x2)",
            "beq x1, x2, .-2", "lui x1, 1048575", "jal .-2", "jalr x1, -1(x2)", "li x1, -1", "la x1, -1", "ebreak",
            ".word -1"};
        for (String instruction : instructions) {
            for (String zeros : new String[] {".space 4", ".space 1\n.align 2"}) {
                CodeSmith smith = Bench.made(instruction + "\n" + zeros);
                Bench.due(instruction + ": bytes 0", Bench.number(smith, 84 + smith.about(1) - 4, 4), 0);
            }
            CodeSmith smith = Bench.made(".data\n.word 0x01020304\n.text\n" + instruction);
            Bench.due(instruction + ": .data", Bench.number(smith, 116 + smith.about(1), 4), 0x01020304);
        }
    }

    /** ".align e (bytes 0 up to an address divided by 2 to the power e, 0 .. 12)". */
    private static void aligns() {
        for (int power = 0; power <= 12; power++) {
            int step = 1 << power;
            for (int before : new int[] {0, 1, step - 1, step, step + 1, 3 * step}) {
                int behind = (before + step - 1) / step * step;
                String text = ".space " + before + "\n.align " + power + "\n.byte 9";
                CodeSmith smith = Bench.made(text);
                Bench.due(text, smith.about(1), behind + 1);
                Bench.due(text, smith.image(84 + behind), 9);
                smith = Bench.made("nop\n.data\n" + text);
                Bench.due(text, smith.about(2), behind + 1);
                Bench.due(text, smith.image(120 + behind), 9);
                Bench.due("bytes 0 of " + text, behind == 0 ? 0 : smith.image(120 + behind - 1), 0);
            }
        }
    }

    private static void wrongAligns() {
        for (String e : new String[] {"-1", "13", "31", "32", "33", "0x7fffffff", "0x80000000"}) {
            Bench.refused(" .align " + e, 1, 1, 6);
            Bench.refused(".data\n.align " + e, 2, 0, 6);
        }
        Bench.made(".space 65420\n.align 2");
        Bench.refused(".space 65420\n.align 3", 2, 0, 6);
        Bench.made(".space 65409\n.align 3");
        Bench.made(".space 61440\n.align 12");
        Bench.refused(".space 61441\n.align 12", 2, 0, 6);
    }

    /** "EARLY: of numbers and constants of lines before alone." */
    private static void earlyNames() {
        Bench.bytes(".equ k, 1\n.space k\n.align k\n.equ m, k+k\n.byte m", 0, 0, 2);
        for (String statement : new String[] {".space ", ".align ", ".equ m,"}) {
            Bench.refused(statement + "k\n.equ k, 1", 1, 7, 4);
            Bench.refused("k: " + statement + "k", 1, 10, 4);
            Bench.refused("k:\n" + statement + "k", 2, 7, 4);
            Bench.refused(statement + "k\nk:", 1, 7, 4);
            Bench.refused(statement + "k", 1, 7, 4);
            Bench.refused(statement + ".", 1, 7, 4);
            Bench.refused(statement + "(1+.)", 1, 10, 4);
            Bench.refused(statement + "%lo(k)", 1, 11, 4);
        }
        Bench.refused(".equ k, k", 1, 8, 4);
        Bench.words(".word k\n.equ k, 0x80000000", Integer.MIN_VALUE);
    }

    /** "Both together have at most 65,420 bytes.": each statement may fill up to it, and not a byte more. */
    private static void everyStatementAtTheLimit() {
        atLimit(".byte 1", 1);
        atLimit(".byte 1, 2, 3", 3);
        atLimit(".half 1", 2);
        atLimit(".word 1", 4);
        atLimit(".word 1, 2", 8);
        atLimit(".ascii \"a\"", 1);
        atLimit(".ascii \"\\n\\\"\"", 2);
        atLimit(".asciz \"\"", 1);
        atLimit(".asciz \"abc\"", 4);
        atLimit(".space 1", 1);
        atLimit(".space 65420", LIMIT);
        String[] four = {"nop", "add x1, x2, x3", "addi x1, x2, 3", "slli x1, x2, 3", "lw x1, (x2)", "sw x1, 4(x2)",
            "beq x1, x2, .", "beqz x1, .", "lui x1, 5", "jal .", "jalr x1", "j .", "ret", "fence", "mv x1, x2",
            "li x1, 2047"};
        for (String statement : four) {
            Bench.made(".space 65416\n" + statement);
            Bench.refused(".space 65420\na: " + statement, 2, 3, 6);
        }
        for (String statement : new String[] {"la x1, 5", "li x1, 2048", "li x1, -2049", "li x1, .-.", "li x1, a"}) {
            Bench.made(".space 65412\na: " + statement);
            Bench.refused(".space 65416\na: " + statement, 2, 3, 6);
        }
    }

    private static void atLimit(String statement, int bytes) {
        Bench.due(statement, Bench.made(".space " + (LIMIT - bytes) + "\n" + statement).about(0), 84 + LIMIT);
        Bench.refused(".space " + (LIMIT - bytes) + "\n.byte 1\na: " + statement, 3, 3, 6);
        Bench.refused(".data\n.space " + (LIMIT - bytes) + "\n.byte 1\n" + statement, 4, 0, 6);
    }

    private static void bothSectionsAtTheLimit() {
        for (int ofText : new int[] {0, 1, 4096, 32710, LIMIT - 1}) {
            int ofData = LIMIT - ofText;
            CodeSmith smith = Bench.made(".space " + ofText + "\n.data\n.space " + (ofData - 1) + "\n.byte 200");
            Bench.due("size", smith.about(0), 65536);
            Bench.due(".text", smith.about(1), ofText);
            Bench.due(".data", smith.about(2), ofData);
            Bench.due("last byte", smith.image(65535), 200);
            Bench.due("behind", smith.image(65536), -1);
            Bench.refused(".space " + ofText + "\n.data\n.space " + (ofData - 1) + "\n.half 200", 4, 0, 6);
            Bench.refused(".data\n.space " + ofData + "\n.text\n.space " + (ofText + 1), 4, 0, 6);
        }
    }

    private static void fullButNothingMore() {
        Bench.made(".space 65420\na: .equ k, 1\n.globl a\n.space 0\n.align 0\n.align 2\n.ascii \"\"\n.data\n.space 0\n"
            + ".align 12\n.text\nb:\n");
    }

    /** "7: an instruction at an address that is not divided by 4". */
    private static void instructionAddresses() {
        for (int before = 0; before <= 8; before++) {
            for (String section : new String[] {"", ".data\n"}) {
                for (String statement : new String[] {"nop", "la x1, 5", "li x1, 5", "jalr x1", "beqz x1, ."}) {
                    String text = section + ".space " + before + "\na: " + statement;
                    if (before % 4 == 0) {
                        Bench.made(text);
                    } else {
                        Bench.refused(text, section.isEmpty() ? 2 : 3, 3, 7);
                    }
                }
            }
        }
        Bench.made(".byte 1\n.word 2\n.half 3\n.asciz \"\"");
    }

    /** "(B, even, -4096 .. 4094 from here)". */
    private static void branchesToLabels() {
        int beq = 0x00208063;
        Bench.due("beq", Bench.number(Bench.made("beq x1, x2, a\n.space 4090\na:"), 84, 4), beq | 0x7e000f80);
        Bench.refused("beq x1, x2, a\n.space 4092\na:", 1, 0, 10);
        Bench.refused("beq x1, x2, a\n.space 4091\na:", 1, 0, 10);
        Bench.due("beq", Bench.number(Bench.made("a: .space 4096\nbeq x1, x2, a"), 84 + 4096, 4), beq | 0x80000000);
        Bench.refused("a: .space 4100\nbeq x1, x2, a", 2, 0, 10);
        Bench.refused("a: .space 4100\nbeq x1, x2, a+2", 2, 0, 10);
        Bench.refused("a: .space 4100\nbeq x1, x2, a+3", 2, 0, 10);
        Bench.due("beq", Bench.number(Bench.made("a: .space 4100\nbeq x1, x2, a+4"), 84 + 4100, 4), beq | 0x80000000);
        Bench.words("beq x1, x2, .", beq);
        Bench.words("nop\n.data\nbeq x1, x2, a\na:", 19, beq | 4 << 7);
        Bench.refused("nop\n.data\n.space 4\nbeq x1, x2, 0", 4, 0, 10);
        Bench.words("nop\n.data\nbeq x1, x2, 0", 19, beq | 0x80000000);
    }

    /** "(J, even, -1048576 .. 1048574 from here)". */
    private static void jumpsToLabels() {
        Bench.words("nop\njal x0, .+1048574", 19, 0x7ffff06f);
        Bench.words("nop\njal x0, 1048578", 19, 0x7ffff06f);
        Bench.refused("nop\njal x0, 1048579", 2, 0, 10);
        Bench.refused("nop\njal x0, 1048580", 2, 0, 10);
        Bench.words("nop\njal x0, -1048572", 19, 0x8000006f);
        Bench.refused("nop\njal x0, -1048573", 2, 0, 10);
        Bench.refused("nop\njal x0, -1048574", 2, 0, 10);
        Bench.words("j a\n.data\na: .word 5", 0x0000106f, 5);
        Bench.due("j", Bench.number(Bench.made("a: .space 65408\nj a"), 84 + 65408, 4), 0x880f006f);
    }

    /** An address is an int, and so is how far it is from here. */
    private static void distancesWrapAround() {
        Bench.words("beq x0, x0, 0xfffff000", 0x80000063);
        Bench.words("nop\nbeq x0, x0, 0xfffff004", 19, 0x80000063);
        Bench.refused("nop\nbeq x0, x0, 0xfffff002", 2, 0, 10);
        Bench.refused("beq x0, x0, 0x80000000", 1, 0, 10);
        Bench.refused("nop\nbeq x0, x0, 0x80000002", 2, 0, 10);
        Bench.refused("nop\nj 0x80000002", 2, 0, 10);
        Bench.refused("nop\nj 0x80000004", 2, 0, 10);
        Bench.words("nop\nj 4294967296", 19, 0xffdff06f);
    }

    /** "addi d, x0, e, if e is early and -2048 .. 2047, else as la". */
    private static void shortLoads() {
        Bench.words("li x1, -2048", 0x80000093);
        Bench.words("li x1, 2047", 0x7ff00093);
        Bench.words("li x1, -2049", 0xfffff0b7, 0x7ff08093);
        Bench.words("li x1, 2048", 0x000010b7, 0x80008093);
        Bench.words("li x1, 0xfffff800", 0x80000093);
        Bench.words("li x1, 4294969343", 0x7ff00093);
        Bench.words("li x1, 0x7fffffff", 0x800000b7, 0xfff08093);
        Bench.words("li x1, 0x80000000", 0x800000b7, 0x00008093);
        Bench.words(".equ k, 2047\nli x1, k\nli x1, k+1", 0x7ff00093, 0x000010b7, 0x80008093);
        Bench.words("li x1, k\n.equ k, 1\nli x1, k", 0x000000b7, 0x00108093, 0x00100093);
        Bench.words("a: li x1, a+5", 0x000000b7, 0x00508093);
        Bench.words("li x1, .*0", 0x000000b7, 0x00008093);
        Bench.words("li x1, 0*later\nlater:", 0x000000b7, 0x00008093);
        Bench.words("li x1, b\nb: li x2, c\nc: .word b, c", 0x000000b7, 0x00808093, 0x00000137, 0x01010113, 8, 16);
    }

    /** "where ( and a register's name come first, it is the latter"; "where a register's name comes first, it is d". */
    private static void registerFirst() {
        Bench.words("lw x1, (x2)", 0x00012083);
        Bench.words("sw x1, ( x2 )", 0x00112023);
        Bench.words("jalr x1, (x2)", 0x000100e7);
        Bench.words("lw x1, (4)(x2)", 0x00412083);
        Bench.words("x32: lw x1, (x32)(x2)", 0x00012083);
        Bench.refused("lw x1, (x2", 1, 10, 1);
        Bench.refused("lw x1, (x2 + 4)(x3)", 1, 11, 1);
        Bench.refused("lw x1, (x2)(x3)", 1, 11, 1);
        Bench.refused("lw x1, ((x2))", 1, 13, 1);
        Bench.refused("lw x1, ((x2))(x3)", 1, 9, 8);
        Bench.refused("lw x1, (x32)", 1, 12, 1);
        Bench.words("jal x2, .", 0x0000016f);
        Bench.words("jal .", 0x000000ef);
        Bench.words("x32: jal x32", 0x000000ef);
        Bench.refused("jal x2", 1, 6, 1);
        Bench.refused("jal x2+4", 1, 6, 1);
        Bench.refused("jal (x2)", 1, 5, 8);
        Bench.words("jalr x2", 0x000100e7);
        Bench.refused("jalr x32", 1, 5, 1);
        Bench.refused("jalr (x2)", 1, 5, 1);
        Bench.refused("jalr 4(x2)", 1, 5, 1);
    }

    /** ".data at the first multiple of 4,096 that is not below the end of .text". */
    private static void dataAddresses() {
        int[] ends = {0, 1, 4095, 4096, 4097, 8191, 8192, 8193, 61440, 61441, 65415, 65416};
        for (int end : ends) {
            int address = (end + 4095) / 4096 * 4096;
            CodeSmith smith = Bench.made(".space " + end + "\n.data\na: .word a");
            Bench.due("part of .data behind " + end, Bench.number(smith, 92, 4), address);
            Bench.due("value of a behind " + end, Bench.number(smith, 116 + end, 4), address);
        }
        CodeSmith smith = Bench.made(".data\na: .word a, b\n.text\n.space 4096\nb: .byte 1");
        Bench.due("what .text gets later counts too", Bench.number(smith, 116 + 4097, 4), 8192);
        Bench.due("b", Bench.number(smith, 116 + 4101, 4), 4096);
    }

    /** "A label's value is the address where the section in which its line begins goes on". */
    private static void labelsAtSectionEnds() {
        Bench.words("a: .data\nb: .text\n.word a, b, c, d\nc: .data\nd:", 0, 4096, 16, 4096);
        Bench.words(".word a\n.data\n.word b\na: .text\nb: .word c\nc:", 4100, 8, 4);
        Bench.bytes(".byte 1\na: .align 2\n.byte a, b\n.align 1\nb:", 1, 0, 0, 0, 1, 6);
        Bench.due("end of .text", Bench.number(Bench.made(".word a\n.space 65416\na:"), 84, 4), LIMIT);
        Bench.due("end of .data", Bench.number(Bench.made(".word a\n.data\n.space 65416\na:"), 116, 4), 4096 + 65416);
    }
}
