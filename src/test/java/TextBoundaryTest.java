/** Boundary cases of promise 5: the text, its lines, tokens, expressions and registers; a method for each sentence. */
public final class TextBoundaryTest {
    private static final int LEAST = Integer.MIN_VALUE;
    private static final int MOST = Integer.MAX_VALUE;

    public static void main(String[] args) {
        lastLine();
        emptyLines();
        longestText();
        everyByteAToken();
        blanks();
        comments();
        nameBegins();
        nameGoesOn();
        nameLengths();
        namesThatDifferInOneByte();
        pointAlone();
        decimals();
        hexDigits();
        behindNumbers();
        characters();
        escapes();
        strings();
        stringEscapes();
        stringLengths();
        labels();
        signsBefore();
        signsInOrder();
        divisions();
        shifts();
        wraps();
        lowAndHigh();
        brackets();
        registers();
        Bench.finish();
    }

    private static boolean isLetter(int c) {
        return c >= 'A' && c <= 'Z' || c >= 'a' && c <= 'z' || c == '_';
    }

    private static boolean isDigit(int c) {
        return c >= '0' && c <= '9';
    }

    private static boolean isBlank(int c) {
        return c == 32 || c == 9 || c == 13;
    }

    private static boolean isShown(int c) {
        return c >= 32 && c <= 126;
    }

    private static void is(String expression, int value) {
        Bench.words(".word " + expression, value);
        Bench.words(".equ k, " + expression + "\n.word k", value);
    }

    /** "each up to a byte 10 (the last one may lack it), counted from 1". */
    private static void lastLine() {
        Bench.words("nop", 19);
        Bench.words("nop\n", 19);
        Bench.words("nop\n ", 19);
        Bench.refused("@", 1, 0, 1);
        Bench.refused("@\n", 1, 0, 1);
        Bench.refused("nop\n@", 2, 0, 1);
        Bench.refused("\n@\n\n", 2, 0, 1);
        Bench.refused("nop\nadd", 2, 3, 1);
        Bench.refused("nop\nadd\n", 2, 3, 1);
    }

    private static void emptyLines() {
        Bench.words("\n", new int[0]);
        Bench.words("\n\n\n", new int[0]);
        Bench.words("\nnop\n\n", 19);
        Bench.refused("\n\n\n\n\n@", 6, 0, 1);
        Bench.refused("\r\n\r\n@", 3, 0, 1);
    }

    /** The longest texts that 512 calls can feed, as one line and as lines without a byte more. */
    private static void longestText() {
        int most = 500 * 20;
        Bench.refused(Bench.times("\n", most - 1) + "@", most, 0, 1);
        Bench.refused(Bench.times(" ", most - 1) + "@", 1, most - 1, 1);
        Bench.refused(Bench.times(" ", most - 3) + "add", 1, most, 1);
        Bench.words(Bench.times(" ", most - 3) + "nop", 19);
        Bench.due("labels of one line", Bench.made(manyLabels(2000)).about(3), 2000);
        Bench.due("bytes of one line", Bench.made(".byte 1" + Bench.times(",1", most / 2 - 4)).about(1), most / 2 - 3);
    }

    /** A line has as many tokens as bytes, and its end: for lines of every length round what a row may hold. */
    private static void everyByteAToken() {
        for (int signs = 1; signs < 300; signs++) {
            Bench.words("j" + Bench.times("-", signs) + ".", 0x0000006f);
            Bench.refused("j" + Bench.times("+", signs), 1, signs + 1, 1);
            Bench.refused("j" + Bench.times("~", signs) + ".,", 1, signs + 2, 1);
        }
    }

    private static String manyLabels(int count) {
        StringBuilder text = new StringBuilder();
        for (int i = 0; i < count; i++) {
            text.append('L').append(Integer.toString(i, 36)).append(':');
        }
        return text.toString();
    }

    /** "BLANKS are the bytes 32, 9, 13": and no other byte. */
    private static void blanks() {
        for (int c = 0; c < 256; c++) {
            String text = (char) c + " nop";
            if (isBlank(c)) {
                Bench.words(text, 19);
                Bench.words("a" + (char) c + ":add" + (char) c + "x1" + (char) c + "," + (char) c + "x2,x3" + (char) c,
                    0x003100b3);
            } else if (c == 10) {
                Bench.words(text, 19);
                Bench.refused("add" + (char) c + "x1", 1, 3, 1);
            } else if (c == '#') {
                Bench.words(text, new int[0]);
            } else if (c == 'j') {
                Bench.refused(text, 1, 2, 8);
            } else {
                Bench.refused(text, 1, 0, isLetter(c) ? 3 : 1);
            }
        }
    }

    /** "# and what is behind it in its line mean nothing (but in quotes)": every byte may be there but 10. */
    private static void comments() {
        for (int c = 0; c < 256; c++) {
            if (c != 10) {
                Bench.words("nop#" + (char) c + "@\nnop #", 19, 19);
            }
        }
        Bench.refused("#\n# x\n#@\n@", 4, 0, 1);
        Bench.bytes(".byte '#'#'\n.ascii \"#\"#\"", 35, 35);
        Bench.words("#");
        Bench.words("a:#");
        Bench.refused("a#:", 1, 0, 3);
    }

    /** "a NAME: one of letters, _ ." */
    private static void nameBegins() {
        for (int c = 0; c < 256; c++) {
            String text = "nop\n" + (char) c + "q: .word " + (char) c + "q";
            if (isLetter(c) || c == '.') {
                Bench.words(text, 19, 4);
            } else if (!isBlank(c) && c != 10 && c != '#') {
                Bench.refused(text, 2, 0, 1);
            }
        }
    }

    /** "and then as many of these and digits as there are". */
    private static void nameGoesOn() {
        for (int c = 0; c < 256; c++) {
            String name = "q" + (char) c;
            if (isLetter(c) || isDigit(c) || c == '.') {
                Bench.words("nop\n" + name + ":.word " + name, 19, 4);
                Bench.words("nop\n" + name + name + ":.word " + name + name, 19, 4);
            } else if (isBlank(c)) {
                Bench.words(name + ":.word 1", 1);
            } else if (c != ':') {
                Bench.refused(name + "x:", 1, 0, 3);
            }
        }
        Bench.refused("q::", 1, 2, 1);
    }

    /** "(at most 32 in all": one byte more is told at the 33rd, wherever a name can be. */
    private static void nameLengths() {
        for (int length = 1; length <= 40; length++) {
            String name = Bench.times("N", length);
            boolean fits = length <= 32;
            if (fits) {
                Bench.words(name + ": .word " + name + "+1", 1);
                Bench.words(".equ " + name + ", 7\n.word " + name, 7);
                Bench.words(".globl " + name + "\nnop", 19);
                Bench.refused("\n" + name, 2, 0, 3);
                Bench.refused("mv x1, " + name, 1, 7, 1);
                Bench.refused(".word %" + name + "(1)", 1, 7, 1);
                Bench.refused(".space " + name, 1, 7, 4);
                Bench.refused(".word " + name, 1, 6, 8);
            } else {
                Bench.refused(name + ": .word " + name, 1, 32, 1);
                Bench.refused(".equ " + name + ", 7", 1, 37, 1);
                Bench.refused(".globl " + name, 1, 39, 1);
                Bench.refused("\n" + name, 2, 32, 1);
                Bench.refused("mv x1, " + name, 1, 39, 1);
                Bench.refused(".word %" + name + "(1)", 1, 39, 1);
                Bench.refused(".space " + name, 1, 39, 1);
                Bench.refused(".word " + name, 1, 38, 1);
            }
        }
        String most = Bench.times("N", 31);
        Bench.words("nop\n" + most + "a: nop\n" + most + "b: .word " + most + "a, " + most + "b", 19, 19, 4, 8);
        Bench.refused(most + "a:\n" + most + "a:", 2, 0, 2);
        Bench.refused(Bench.times(".", 33), 1, 32, 1);
        Bench.refused(Bench.times(".", 32), 1, 0, 3);
    }

    private static void namesThatDifferInOneByte() {
        String bytes = "ABCDEFGHIJKLMNOPQRSTUVWXYZabcdefghijklmnopqrstuvwxyz_.";
        String[] frames = {"?qq", "q?q", "qq?", "?qqqq", "qq?qq", "qqqq?", "?qqqqqqqqqqqqqqq", "q?qqqqqqqqqqqqqq"};
        for (String frame : frames) {
            StringBuilder text = new StringBuilder();
            int[] want = new int[bytes.length()];
            for (int i = 0; i < want.length; i++) {
                text.append(".equ ").append(frame.replace('?', bytes.charAt(i))).append(',').append(i + 1).append('\n');
            }
            for (int i = 0; i < want.length; i++) {
                text.append(".byte ").append(frame.replace('?', bytes.charAt(i))).append('\n');
                want[i] = i + 1;
            }
            Bench.bytes(text.toString(), want);
        }
    }

    /** "a . by itself is none, but a sign". */
    private static void pointAlone() {
        Bench.words("nop\n.word .", 19, 4);
        Bench.words("nop\n.word ., -., (.), .*2, 2*., .-.", 19, 4, -4, 4, 8, 8, 0);
        Bench.words("nop\n..: .word ..", 19, 4);
        Bench.words("nop\n._: .word ._+.", 19, 8);
        Bench.refused(".", 1, 0, 1);
        Bench.refused(".:", 1, 0, 1);
        Bench.refused(".equ ., 1", 1, 5, 1);
        Bench.refused(".globl .", 1, 7, 1);
        Bench.refused(".word . .", 1, 8, 1);
        Bench.refused(".word .5", 1, 6, 8);
        Bench.refused("mv x1, .", 1, 7, 1);
    }

    /** "digits .. (both modulo 2^32)". */
    private static void decimals() {
        is("0", 0);
        is("9", 9);
        is("2147483647", MOST);
        is("2147483648", LEAST);
        is("4294967295", -1);
        is("4294967296", 0);
        is("4294967297", 1);
        is("18446744073709551615", -1);
        is("18446744073709551616", 0);
        is(Bench.times("0", 60) + "7", 7);
        is("1" + Bench.times("0", 31), LEAST);
        is("1" + Bench.times("0", 32), 0);
    }

    /** "0x, which always begins such a one, and at least one of the digits 0 .. 9 a .. f A .. F". */
    private static void hexDigits() {
        for (int c = 0; c < 256; c++) {
            int digit = isDigit(c) || c >= 'a' && c <= 'f' || c >= 'A' && c <= 'F' ? Character.digit(c, 16) : -1;
            String text = ".word 0x" + (char) c;
            if (digit >= 0) {
                Bench.words(text, digit);
                Bench.words(text + (char) c, digit * 17);
                Bench.words(".word 0xffffffff" + (char) c, digit - 16);
            } else {
                Bench.refused(text, 1, 8, 1);
                Bench.refused(text + "1", 1, 8, 1);
            }
        }
        is("0x7fffffff", MOST);
        is("0x80000000", LEAST);
        is("0xffffffff", -1);
        is("0x100000000", 0);
        is("0xFEDCBA9876543210", 0x76543210);
        Bench.refused("xg: .word 0xg", 1, 12, 1);
        Bench.refused(".word 0x", 1, 8, 1);
        Bench.refused(".word 1+0x*2", 1, 10, 1);
        Bench.refused(".word 0X1", 1, 7, 1);
        Bench.refused(".word 10x1", 1, 8, 1);
    }

    /** "as many as there are": the byte that a number does not go on with begins the next token. */
    private static void behindNumbers() {
        for (int c = 0; c < 256; c++) {
            String text = ".word 1" + (char) c;
            if (isDigit(c)) {
                Bench.words(text, 10 + c - '0');
            } else if (isBlank(c) || c == 10 || c == '#') {
                Bench.words(text, 1);
            } else if (",+-*/%&|^<>".indexOf(c) >= 0) {
                Bench.refused(text, 1, 8, 1);
            } else {
                Bench.refused(text, 1, 7, 1);
            }
        }
    }

    /** "in ' a CHARACTER 32 .. 126 but ' and \". */
    private static void characters() {
        for (int c = 0; c < 256; c++) {
            String text = ".byte '" + (char) c + "'";
            if (isShown(c) && c != '\'' && c != '\\') {
                Bench.bytes(text, c);
                Bench.refused(".byte '" + (char) c, 1, 8, 1);
                Bench.refused(".byte '" + (char) c + " '", 1, 8, 1);
            } else {
                Bench.refused(text, 1, c == '\\' ? 9 : 7, 1);
            }
        }
        Bench.refused(".byte '", 1, 7, 1);
        Bench.refused(".byte ''", 1, 7, 1);
    }

    private static int escaped(int c) {
        int at = "nt0\\'\"".indexOf(c);
        return at < 0 ? -1 : new int[] {10, 9, 0, 92, 39, 34}[at];
    }

    /** "or \ and one of n t 0 \ ' " (10, 9, 0, itself)". */
    private static void escapes() {
        for (int c = 0; c < 256; c++) {
            String text = ".byte '\\" + (char) c + "'";
            if (escaped(c) >= 0) {
                Bench.bytes(text, escaped(c));
                Bench.refused(text.substring(0, 9), 1, 9, 1);
            } else {
                Bench.refused(text, 1, 8, 1);
            }
        }
        Bench.refused(".byte '\\", 1, 8, 1);
    }

    /** "in " any number of characters 32 .. 126 but " and \". */
    private static void strings() {
        for (int c = 0; c < 256; c++) {
            String text = ".ascii \"" + (char) c + "\"";
            if (isShown(c) && c != '"' && c != '\\') {
                Bench.bytes(text, c);
                Bench.bytes(".asciz \"" + (char) c + (char) c + "\"", c, c, 0);
                Bench.refused(".ascii \"" + (char) c, 1, 9, 1);
            } else {
                Bench.refused(text, 1, c == '\\' ? 10 : c == '"' ? 9 : 8, 1);
            }
        }
    }

    private static void stringEscapes() {
        for (int c = 0; c < 256; c++) {
            String text = ".ascii \"\\" + (char) c + "\"";
            if (escaped(c) >= 0) {
                Bench.bytes(text, escaped(c));
                Bench.refused(text.substring(0, 10), 1, 10, 1);
            } else {
                Bench.refused(text, 1, 9, 1);
            }
        }
    }

    /** "any number": none, and as many as 512 calls can feed. */
    private static void stringLengths() {
        Bench.bytes(".ascii \"\"");
        Bench.bytes(".asciz \"\"", 0);
        Bench.refused(".ascii \"", 1, 8, 1);
        Bench.refused(".ascii \"\"\"\"", 1, 9, 1);
        int most = 500 * 20 - 9;
        CodeSmith smith = Bench.made(".ascii \"" + Bench.times("z", most) + "\"");
        Bench.due("bytes", smith.about(1), most);
        Bench.due("last byte", smith.image(84 + most - 1), 'z');
        Bench.due("behind", smith.image(84 + most), -1);
        Bench.due("bytes", Bench.made(".asciz \"" + Bench.times("\\0", most / 2) + "\"").about(1), most / 2 + 1);
    }

    /** "any number of LABELS (a name and a colon), then nothing or a STATEMENT". */
    private static void labels() {
        Bench.words("", new int[0]);
        Bench.words("a:", new int[0]);
        Bench.words("a:b :\tc: nop", 19);
        Bench.words("nop: nop", 19);
        Bench.words("nop:nop", 19);
        Bench.words(".text: .data: .text", new int[0]);
        Bench.refused("a: :", 1, 3, 1);
        Bench.refused("a: nop b:", 1, 7, 1);
        Bench.refused("a: 1:", 1, 3, 1);
        Bench.words("a: nop:", new int[0]);
        Bench.refused("a: nop:b", 1, 7, 3);
    }

    /** "- + ~ before one of these": before each of them. */
    private static void signsBefore() {
        String[] operands = {"6", "a", ".", "(6)", "%hi(0x6000)", "%lo(6)", "'\\t'"};
        int[] values = {6, 4, 4, 6, 6, 6, 9};
        for (int i = 0; i < operands.length; i++) {
            Bench.words("nop\na: .word " + operands[i], 19, values[i]);
            Bench.words("nop\na: .word +" + operands[i], 19, values[i]);
            Bench.words("nop\na: .word -" + operands[i], 19, -values[i]);
            Bench.words("nop\na: .word ~" + operands[i], 19, ~values[i]);
            Bench.words("nop\na: .word 2*-" + operands[i] + "+1", 19, 1 - 2 * values[i]);
            Bench.words("nop\na: .word 2*~" + operands[i] + "+1", 19, 1 + 2 * ~values[i]);
        }
    }

    private static final String[] SIGNS = {"*", "/", "%", "+", "-", "<<", ">>", "&", "^", "|"};
    private static final int[] LEVELS = {0, 0, 0, 1, 1, 2, 2, 3, 4, 5};

    /** "the earlier ones first, from the left to the right": every sign before every other. */
    private static void signsInOrder() {
        int[][] triples = {{13, 6, 3}, {-100, 7, 2}, {6, 1, 1}, {1, 1, 5}, {77, 12, 10}, {-1, 3, 4}};
        for (int one = 0; one < SIGNS.length; one++) {
            for (int other = 0; other < SIGNS.length; other++) {
                for (int[] t : triples) {
                    String text = t[0] + SIGNS[one] + t[1] + SIGNS[other] + t[2];
                    boolean left = LEVELS[one] <= LEVELS[other];
                    int inner = left ? 0 : reckon(other, t[1], t[2]);
                    boolean byZero = !left && inner == 0 && (one == 1 || one == 2);
                    if (!byZero) {
                        is(text, left ? reckon(other, reckon(one, t[0], t[1]), t[2]) : reckon(one, t[0], inner));
                    }
                }
            }
        }
    }

    private static int reckon(int sign, int x, int y) {
        switch (SIGNS[sign]) {
            case "*": return x * y;
            case "/": return x / y;
            case "%": return x % y;
            case "+": return x + y;
            case "-": return x - y;
            case "<<": return x << y;
            case ">>": return x >> y;
            case "&": return x & y;
            case "^": return x ^ y;
            default: return x | y;
        }
    }

    /** "/ and % towards 0, the least int by -1 is itself, 0". */
    private static void divisions() {
        is("0x80000000/-1", LEAST);
        is("0x80000000%-1", 0);
        is("0x80000001/-1", MOST);
        is("0x80000000/1", LEAST);
        is("0x80000000%1", 0);
        is("0x80000000/0x80000000", 1);
        is("0x7fffffff/0x80000000", 0);
        is("0x7fffffff%0x80000000", MOST);
        is("-1/0x7fffffff", 0);
        is("-1%0x7fffffff", -1);
        is("0/5", 0);
        is("0%-5", 0);
        is("-1/2", 0);
        is("1/-2", 0);
        is("-3/2", -1);
        is("-3%2", -1);
        is("3%-2", 1);
    }

    /** ">> with sign; moved by the lowest five bits". */
    private static void shifts() {
        int[] by = {0, 1, 31, 32, 33, 63, 64, -1, -32, -33, LEAST, MOST};
        for (int n : by) {
            for (int value : new int[] {1, -1, 5, LEAST, MOST, 0x12345678}) {
                is(value + "<<" + n, value << (n & 31));
                is(value + ">>" + n, value >> (n & 31));
            }
        }
    }

    /** "ints": all wraps around. */
    private static void wraps() {
        is("2147483647+1", LEAST);
        is("-2147483648-1", MOST);
        is("-0x80000000", LEAST);
        is("~0x80000000", MOST);
        is("~0x7fffffff", LEAST);
        is("~-1", 0);
        is("65536*65536", 0);
        is("0x80000000*-1", LEAST);
        is("46341*46341", -2147479015);
        is("0x80000000|0x7fffffff", -1);
        is("0x80000000^-1", MOST);
        is("0x80000000&-1", LEAST);
    }

    /** "%lo is the lowest twelve bits with sign, %hi is .. 0 .. 1048575". */
    private static void lowAndHigh() {
        int[] edges = {0, 1, 2047, 2048, 2049, 4095, 4096, 6143, 6144, -1, -2048, -2049, -4096, MOST, MOST - 2047,
            MOST - 2048, LEAST, LEAST + 2047, LEAST + 2048, LEAST + 4096};
        for (int e : edges) {
            int low = (e & 4095) >= 2048 ? (e & 4095) - 4096 : e & 4095;
            int high = (int) (((e & 0xffffffffL) - low >> 12) & 1048575);
            is("%lo(" + e + ")", low);
            is("%hi(" + e + ")", high);
            is("(%hi(" + e + ")<<12)+%lo(" + e + ")", e);
            Bench.words("lui x1, %hi(" + e + ")\naddi x1, x1, %lo(" + e + ")", 0x37 | 1 << 7 | high << 12,
                0x13 | 1 << 7 | 1 << 15 | low << 20);
            Bench.words("la x1, " + e, 0x37 | 1 << 7 | high << 12, 0x13 | 1 << 7 | 1 << 15 | low << 20);
        }
        is("%hi(0)", 0);
        is("%hi(0xfffff7ff)", 1048575);
        is("%hi(0xfffff800)", 0);
        is("%lo(0xfffff800)", -2048);
    }

    /** "Brackets are at most 16 deep.": of each kind, and side by side. */
    private static void brackets() {
        for (String open : new String[] {"(", "%hi(", "%lo(", "-(", "1+(", "~%lo ("}) {
            for (int deep = 15; deep <= 18; deep++) {
                String text = ".word " + Bench.times(open, deep) + "0" + Bench.times(")", deep);
                if (deep <= 16) {
                    Bench.due(text, Bench.made(text).about(1), 4);
                } else {
                    Bench.refused(text, 1, 6 + 17 * open.length() - 1, 1);
                    Bench.refused(".equ k, " + text.substring(6), 1, 8 + 17 * open.length() - 1, 1);
                }
            }
        }
        String sixteen = Bench.times("(", 16) + "1" + Bench.times(")", 16);
        is(sixteen + "+" + sixteen, 2);
        is(Bench.times("(", 15) + "(1)+(1)" + Bench.times(")", 15), 2);
        Bench.refused(".word " + Bench.times("(", 15) + "(1)+((1))", 1, 26, 1);
        Bench.words("lw x1, " + sixteen + "(x2)", 0x00112083);
        Bench.refused("lw x1, (" + sixteen + ")(x2)", 1, 23, 1);
        Bench.refused(".word " + Bench.times("(", 16) + "1" + Bench.times(")", 15), 1, 38, 1);
        Bench.refused(".word " + Bench.times("(", 16) + "1" + Bench.times(")", 17), 1, 39, 1);
    }

    /** "x0 .. x31, or zero ra .. a0 .. a7 s2 .. s11 t3 .. t6": those next to them are none. */
    private static void registers() {
        String[] last = {"x0", "x31", "a0", "a7", "s0", "s1", "s2", "s11", "t0", "t2", "t3", "t6"};
        int[] number = {0, 31, 10, 17, 8, 9, 18, 27, 5, 7, 28, 31};
        for (int i = 0; i < last.length; i++) {
            Bench.words("jr " + last[i], 103 | number[i] << 15);
            Bench.refused(last[i] + ":", 1, 0, 2);
            Bench.refused(".equ " + last[i] + ", 1", 1, 5, 2);
            Bench.refused(".word " + last[i], 1, 6, 8);
        }
        String[] nones = {"x32", "x99", "x00", "x031", "a8", "a10", "s12", "s02", "t7", "t10", "X0", "ZERO"};
        for (String none : nones) {
            Bench.refused("jr " + none, 1, 3, 1);
            Bench.words(none + ": .equ " + none + ".k, 5\n.word " + none + "+" + none + ".k", 5);
        }
    }
}
