/** Boundary cases of promise 6: the kinds, their places, which comes first, and what stays; a method for each sentence. */
public final class ErrorBoundaryTest {
    private static final String[] SAMPLES = {".text", ".data", ".byte 1 , ( 2 + 3 ) * 4", ".half - 1", ".word % hi ( 5 )",
        ".ascii \"a\"", ".asciz \"a\"", ".space 4", ".align 2", ".equ k , 5", ".globl k", "add x1 , x2 , x3",
        "addi x1 , x2 , 3", "slli x1 , x2 , 3", "lw x1 , 4 ( x2 )", "lw x1 , ( x2 )", "sw x1 , 4 ( x2 )",
        "sw x1 , ( x2 )", "beq x1 , x2 , .", "bgt x1 , x2 , .", "beqz x1 , .", "bgtz x1 , .", "lui x1 , 5",
        "auipc x1 , 5", "jal x1 , .", "jal .", "jalr x1 , 4 ( x2 )", "jalr x1 , ( x2 )", "jalr x1", "fence", "ecall",
        "ebreak", "nop", "mv x1 , x2", "not x1 , x2", "neg x1 , x2", "seqz x1 , x2", "snez x1 , x2", "sltz x1 , x2",
        "sgtz x1 , x2", "j .", "call .", "jr x1", "ret", "la x1 , 5", "li x1 , 5"};

    public static void main(String[] args) {
        missingTokens();
        tokensTooMany();
        wrongTokens();
        colons();
        flawsWhereTheyCanBe();
        takenNames();
        noStatements();
        earlyBeforeDivision();
        noValueToDivideBy();
        lateKinds();
        firstLine();
        latestAssembleAlone();
        otherWhats();
        nothingStaysOfAWrongText();
        Bench.finish();
    }

    private static boolean isWhole(String line) {
        return line.equals("jalr x1") || line.equals(".byte 1") || line.equals(".byte 1 , ( 2 + 3 )");
    }

    /** "at the line's end, or its #, if one is missing": behind each token of each statement. */
    private static void missingTokens() {
        for (String sample : SAMPLES) {
            Bench.made(sample);
            for (int at = sample.indexOf(' '); at >= 0; at = sample.indexOf(' ', at + 1)) {
                String begin = sample.substring(0, at);
                if (!isWhole(begin)) {
                    Bench.refused(begin, 1, at, 1);
                    Bench.refused("nop\n" + begin + "\nnop", 2, at, 1);
                    Bench.refused(begin + " \t\r", 1, at + 3, 1);
                    Bench.refused(begin + "# x", 1, at, 1);
                    Bench.refused(" a: " + begin + "  # x", 1, at + 6, 1);
                }
            }
        }
    }

    /** "a token that can't be there (at its first byte": one behind each whole statement. */
    private static void tokensTooMany() {
        for (String sample : SAMPLES) {
            for (String more : new String[] {"5", "foo", "x1", "\"a\"", "'a'", ")", "~", ".", "@", "0x", "'", "\"",
                Bench.times("n", 33)}) {
                Bench.refused(sample + " " + more, 1, sample.length() + 1, 1);
            }
        }
        for (String alone : new String[] {"nop", ".text", "ret", "add x1, x2, x3", ".ascii \"a\"", ".globl k", "jr x1"}) {
            for (String more : new String[] {",", "(", "+", "-", "*", "/", "%", "&", "|", "^", "<<", ">>", "<", ">"}) {
                Bench.refused(alone + " " + more, 1, alone.length() + 1, 1);
            }
        }
    }

    /** The same in the place of each token behind the statement's name. */
    private static void wrongTokens() {
        for (String sample : SAMPLES) {
            for (int at = sample.indexOf(' '); at >= 0; at = sample.indexOf(' ', at + 1)) {
                int next = sample.indexOf(' ', at + 1);
                String rest = next < 0 ? "" : sample.substring(next);
                for (String wrong : new String[] {"@", "$", "\\", "\u0000", "\u00ff", "?", "]"}) {
                    Bench.refused(sample.substring(0, at + 1) + wrong + rest, 1, at + 1, 1);
                }
            }
        }
    }

    /** A colon makes a label of the first name, whatever it is, but is wrong behind any other. */
    private static void colons() {
        Bench.made("nop:");
        Bench.made(".word :");
        Bench.refused(".word : 5", 1, 8, 1);
        Bench.refused("nop nop:", 1, 4, 1);
        Bench.refused(".word 5 :", 1, 8, 1);
        Bench.refused(".word a:", 1, 7, 1);
        Bench.refused("add x1 : x2, x3", 1, 7, 1);
        Bench.refused(".globl a:", 1, 8, 1);
        Bench.refused("5:", 1, 0, 1);
        Bench.refused("\"a\":", 1, 0, 1);
    }

    /** "a byte that no token .. goes on with there": told at it where such a token can be, else at the token. */
    private static void flawsWhereTheyCanBe() {
        Bench.refused(".word 0x", 1, 8, 1);
        Bench.refused(".ascii 0x", 1, 7, 1);
        Bench.refused(".word 'ab'", 1, 8, 1);
        Bench.refused("mv x1, 'ab'", 1, 7, 1);
        Bench.refused(".ascii \"ab", 1, 10, 1);
        Bench.refused(".word \"ab", 1, 6, 1);
        Bench.refused(".word 1 <", 1, 9, 1);
        Bench.refused(".word 1 >", 1, 9, 1);
        Bench.refused(".word 1 <>", 1, 9, 1);
        Bench.refused(".word <", 1, 6, 1);
        Bench.refused("mv x1 <", 1, 6, 1);
        Bench.refused(".word (1 <", 1, 10, 1);
        Bench.refused(".word 1*2 <", 1, 11, 1);
        Bench.refused(".word 1 << ", 1, 11, 1);
        Bench.refused(".word 1 < < 2", 1, 9, 1);
    }

    /** "2: a label's or constant's name that is one already, or a register's (at it)." */
    private static void takenNames() {
        String[] first = {"a:", "a: nop", ".equ a, 1", "b: a:", ".data\na:"};
        String[] second = {"a:", "  .equ a, 1", "c: a: nop", ".text\na:", "c: .equ a, a"};
        int[] place = {0, 7, 3, 0, 8};
        for (String one : first) {
            for (int i = 0; i < second.length; i++) {
                String text = one + "\n" + second[i];
                int line = text.split("\n").length;
                Bench.refused(text, line, place[i], 2);
                Bench.refused(text + " @", line, place[i], 2);
            }
        }
        Bench.refused("a:a:", 1, 2, 2);
        Bench.refused("a: .equ a, 1", 1, 8, 2);
        Bench.refused("a: x1: a:", 1, 3, 2);
        Bench.made("a: A: aa: a.: _a:\n.equ a_, 1");
        Bench.made(".globl a\n.globl a\na:\n.globl a");
    }

    /** "3: a statement's name that is none (at it)." */
    private static void noStatements() {
        for (String name : new String[] {"addx", "ad", "Add", "x1", "a0", "start", ".", ".wor", ".words", "_", "hi"}) {
            int kind = name.equals(".") ? 1 : 3;
            Bench.refused(name, 1, 0, kind);
            Bench.refused("a: b:" + name + " @", 1, 5, kind);
            Bench.refused(".byte 1\n " + name + " x1, x2", 2, 1, kind);
        }
    }

    /** "4: a name .. that is no constant of a line before"; "5: / or % by 0 in these (at the sign)". */
    private static void earlyBeforeDivision() {
        for (String statement : new String[] {".space ", ".align ", ".equ k,"}) {
            Bench.refused(statement + "a/0", 1, 7, 4);
            Bench.refused(statement + "1/0+a", 1, 8, 5);
            Bench.refused(statement + "1/0/0", 1, 8, 5);
            Bench.refused(statement + "0/1/0", 1, 10, 5);
            Bench.refused(statement + "1%(4-4)", 1, 8, 5);
            Bench.refused(statement + "1 % -0", 1, 9, 5);
            Bench.refused(statement + "1/4294967296", 1, 8, 5);
            Bench.refused(statement + "1/(1/2)", 1, 8, 5);
            Bench.refused(statement + "1/%hi(2047)", 1, 8, 5);
            Bench.refused(".equ z,0\n" + statement + "1+2*3/z", 2, 12, 5);
            Bench.refused(statement + "1/0,", 1, 8, 5);
            Bench.refused(statement + "(1/0", 1, 9, 5);
        }
    }

    /** "what is no expression, for a byte or token in it, has no value by which one could divide". */
    private static void noValueToDivideBy() {
        for (String statement : new String[] {".space ", ".align ", ".equ k,"}) {
            Bench.refused(statement + "1/(0", 1, 11, 1);
            Bench.refused(statement + "1/(0 0)", 1, 12, 1);
            Bench.refused(statement + "1/(0+)", 1, 12, 1);
            Bench.refused(statement + "1/%lo(0", 1, 14, 1);
            Bench.refused(statement + "1/0x", 1, 11, 1);
            Bench.refused(statement + "1/'", 1, 10, 1);
            Bench.refused(statement + "1/-", 1, 10, 1);
            Bench.refused(statement + "1/(a*0)", 1, 10, 4);
            Bench.refused(statement + "1/(1/0)", 1, 11, 5);
            Bench.refused(statement + "1/(1/0 @)", 1, 11, 5);
            Bench.refused(statement + "1/" + Bench.times("(", 17), 1, 25, 1);
        }
        Bench.refused(".word 1/(a*0)", 1, 9, 8);
        Bench.refused(".word 1/(1/0)", 1, 10, 9);
        Bench.refused(".word 1/0 @", 1, 10, 1);
    }

    /** "but 7, 6 and 10 behind all others (in this order)". */
    private static void lateKinds() {
        Bench.refused(".space 65419\nnop", 2, 0, 7);
        Bench.refused(".space 65418\nla x1, 5", 2, 0, 7);
        Bench.refused(".space 65420\nnop @", 2, 4, 1);
        Bench.refused(".byte 1\nnop @", 2, 4, 1);
        Bench.refused(".byte 1\na: a: nop", 2, 3, 2);
        Bench.refused(".byte 1\naddi x1, x1, 5000", 2, 0, 7);
        Bench.refused(".byte 1\naddi x1, x1, nowhere", 2, 0, 7);
        Bench.refused(".space 65420\naddi x1, x1, 1/0", 2, 0, 6);
        Bench.refused(".space 65421+a", 1, 13, 4);
        Bench.refused(".space 65421 @", 1, 13, 1);
        Bench.refused(".space 65421/0", 1, 12, 5);
        Bench.refused("addi x1, x1, 5000+a", 1, 18, 8);
        Bench.refused("addi x1, x1, 5000+1/0", 1, 19, 9);
        Bench.refused("lw x1, 5000(x2", 1, 14, 1);
        Bench.refused("a: addi x1, x1, 5000", 1, 3, 10);
    }

    /** "the first line that has one of the kinds 1 to 7, or, if none has, of the kinds 8 to 10". */
    private static void firstLine() {
        String[] early = {"@", "x1:", "foo", ".space a", ".space 1/0", ".space -1", ".byte 1\nnop"};
        String[] late = {"j nowhere", ".word 1/0", "addi x1, x1, 5000"};
        for (int i = 0; i < early.length; i++) {
            int place = new int[] {0, 0, 0, 7, 8, 0, 0}[i];
            int line = i == 6 ? 2 : 1;
            for (String later : late) {
                Bench.refused(early[i] + "\n" + later, line, place, i + 1);
                Bench.refused(later + "\n" + early[i], line + 1, place, i + 1);
            }
            for (String other : early) {
                Bench.refused(early[i] + "\n" + other, line, place, i + 1);
            }
        }
        for (int i = 0; i < late.length; i++) {
            for (String other : late) {
                Bench.refused("nop\n" + late[i] + "\n" + other, 2, new int[] {2, 7, 0}[i], 8 + i);
            }
        }
    }

    /** "Of the latest assemble, if it threw"; "0 if it did not". */
    private static void latestAssembleAlone() {
        CodeSmith smith = new CodeSmith();
        tell(smith, 0, 0, 0);
        Bench.feed(smith, "\n\nadd");
        tell(smith, 0, 0, 0);
        Bench.due("assemble", Bench.assemble(smith), -1);
        tell(smith, 3, 3, 1);
        Bench.due("feed", smith.feed(-1, -1, -1, -1, -1), true);
        Bench.due("end", smith.end(0), true);
        tell(smith, 3, 3, 1);
        Bench.feed(smith, "nop\nj nowhere");
        Bench.due("assemble", Bench.assemble(smith), -1);
        tell(smith, 2, 2, 8);
        Bench.due("assemble of nothing", Bench.assemble(smith), 84);
        tell(smith, 0, 0, 0);
        Bench.feed(smith, "@");
        Bench.due("assemble", Bench.assemble(smith), -1);
        tell(smith, 1, 0, 1);
        tell(smith, 1, 0, 1);
    }

    private static void tell(CodeSmith smith, int line, int place, int kind) {
        Bench.due("error(0)", smith.error(0), line);
        Bench.due("error(1)", smith.error(1), place);
        Bench.due("error(2)", smith.error(2), kind);
    }

    /** "0 .. for another what". */
    private static void otherWhats() {
        CodeSmith smith = new CodeSmith();
        Bench.feed(smith, "\n\n  @");
        Bench.due("assemble", Bench.assemble(smith), -1);
        tell(smith, 3, 2, 1);
        for (int what : new int[] {-1, 3, 4, 10, Integer.MIN_VALUE, Integer.MAX_VALUE}) {
            Bench.due("error(" + what + ")", smith.error(what), 0);
        }
    }

    /** Neither names nor bytes nor the section of a text that was wrong are there for the next one. */
    private static void nothingStaysOfAWrongText() {
        CodeSmith smith = new CodeSmith();
        Bench.feed(smith, "a: b: .equ start, 5\n.equ k, 5\n.space 65420\n.data\n@");
        Bench.due("assemble", Bench.assemble(smith), -1);
        Bench.feed(smith, "a: b: start: .equ k, 6\n.space k-2\n.byte k");
        Bench.due("assemble", Bench.assemble(smith), 89);
        Bench.due("labels and constants", smith.about(3), 4);
        Bench.due("the byte", smith.image(88), 6);
        Bench.feed(smith, ".space k");
        Bench.due("assemble", Bench.assemble(smith), -1);
        tell(smith, 1, 7, 4);
        Bench.feed(smith, ".word a");
        Bench.due("assemble", Bench.assemble(smith), -1);
        tell(smith, 1, 6, 8);
        Bench.due("image before", smith.about(0), 89);
    }
}
