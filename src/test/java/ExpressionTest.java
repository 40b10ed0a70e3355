/** Promise 5: expressions. */
public final class ExpressionTest {
    private static final int LEAST = Integer.MIN_VALUE;

    public static void main(String[] args) {
        signsBefore();
        signsBetween();
        order();
        parts();
        brackets();
        names();
        early();
        Bench.finish();
    }

    private static void is(String expression, int value) {
        Bench.words(".word " + expression, value);
        Bench.words(".equ k, " + expression + "\n.word k", value);
    }

    private static void signsBefore() {
        is("-5", -5);
        is("+5", 5);
        is("~5", -6);
        is("-(5)", -5);
        is("~ - 5", 4);
        is("-~5", 6);
        is("~~5", 5);
        is("- - -5", -5);
        is("-+~+7", 8);
        is("~-~-3", 1);
        is("-2147483648", LEAST);
        is("2 - -3", 5);
        is("2*-3", -6);
    }

    private static void signsBetween() {
        is("6*7", 42);
        is("65536*65537", 65536);
        is("7/2", 3);
        is("-7/2", -3);
        is("7/-2", -3);
        is("-7%2", -1);
        is("7%-2", 1);
        is("0x80000000/-1", LEAST);
        is("0x80000000%-1", 0);
        is("0xffffffff/2", 0);
        is("2147483647+1", LEAST);
        is("0-0x80000000", LEAST);
        is("1<<31", LEAST);
        is("1<<32", 1);
        is("1<<-1", LEAST);
        is("-16>>2", -4);
        is("0x80000000>>31", -1);
        is("-16>>34", -4);
        is("12&10", 8);
        is("12^10", 6);
        is("12|10", 14);
    }

    private static void order() {
        is("2+3*4", 14);
        is("(2+3)*4", 20);
        is("20-5-3", 12);
        is("100/5/2", 10);
        is("7*7%10", 9);
        is("7%10*7", 49);
        is("1<<2+1", 8);
        is("1<<2<<1", 8);
        is("256>>2>>1<<3", 256);
        is("7&1<<1", 2);
        is("6^3&2", 4);
        is("1|6^7", 1);
        is("8|1^3&2+1*2", 9);
        is("2*3+1<<1&12^5|64", 73);
        is("1|2^3&4<<5+6*7", 3);
        is("-2*3+~4", -11);
    }

    private static void parts() {
        is("%lo(0x12345678)", 0x678);
        is("%hi(0x12345678)", 0x12345);
        is("%lo(0x12345fff)", -1);
        is("%hi(0x12345fff)", 0x12346);
        is("%lo(2048)", -2048);
        is("%hi(2048)", 1);
        is("%lo(2047)", 2047);
        is("%hi(2047)", 0);
        is("%hi(-1)", 0);
        is("%hi(-2049)", 0xfffff);
        is("%hi(0x7ffff800)", 0x80000);
        is("%hi(0xfffff000)", 1048575);
        is("% hi ( 1 << 12 ) + 5 % %lo ( 3 )", 3);
        is("-%lo(3)", -3);
        is("%hi(%lo(4095))", 0);
    }

    private static void brackets() {
        is(Bench.times("(", 16) + "7" + Bench.times(")", 16), 7);
        is(Bench.times("-(", 16) + "7" + Bench.times(")", 16), 7);
        is(Bench.times("%lo(", 16) + "7" + Bench.times(")", 16), 7);
        is(Bench.times("(", 15) + "%hi(4096)" + Bench.times(")", 15), 1);
        is("((1)+(2))*((3)+((4)))", 21);
        is(Bench.times("(1|2^3&4<<5+6*", 16) + "1" + Bench.times(")", 16), 3);
        Bench.words("lw x1, " + Bench.times("(", 16) + "4" + Bench.times(")", 16) + "(x2)", 0x00412083);
    }

    private static void names() {
        Bench.words("nop\na: .word a, b, b-a, k, .\nb: .equ k, 9", 19, 4, 24, 20, 9, 4);
    }

    private static void early() {
        Bench.words(".equ k, 5\n.equ m, k*k+k\n.equ n, -m\n.word k, m, n", 5, 30, -30);
        Bench.words(".equ k, 2047\nli x1, k", 0x7ff00093);
        Bench.words(".equ k, -2048\nli x1, k", 0x80000093);
        Bench.words(".equ k, 2048\nli x1, k", 0x000010b7, 0x80008093);
        Bench.words("li x1, k\n.equ k, 5", 0x000000b7, 0x00508093);
        Bench.words("k: li x1, k", 0x000000b7, 0x00008093);
        Bench.words("li x1, .", 0x000000b7, 0x00008093);
        Bench.words("k: li x1, k-k+3", 0x000000b7, 0x00308093);
        Bench.words("li x1, %lo(0x12345678)*(2-1)", 0x67800093);
        Bench.words("li x1, -2049", 0xfffff0b7, 0x7ff08093);
        Bench.words("li x1, 0x80000000", 0x800000b7, 0x00008093);
        Bench.words("li x1, 0xffffffff", 0xfff00093);
        Bench.words("li x1, 4096", 0x000010b7, 0x00008093);
    }
}
