import java.util.Arrays;

/** An assembler for a processor of 32 bits. The tape is fed with a text; the text becomes an image. */
public final class CodeSmith {
    /** Nothing there. */
    public static final int NONE = -1;

    private static final int TAPE_LIMIT = 65536;
    private static final int BYTES_LIMIT = 65420;
    private static final int NAME_LIMIT = 32;
    private static final int BRACKET_LIMIT = 16;
    private static final int ALIGN_LIMIT = 12;
    private static final int PAGE = 4096;
    private static final int FED = 20;

    // The kinds of errors, as the document numbers them.
    private static final int WRONG_TOKEN = 1;
    private static final int NAME_TAKEN = 2;
    private static final int NO_STATEMENT = 3;
    private static final int NOT_EARLY = 4;
    private static final int EARLY_DIVISION = 5;
    private static final int TOO_MANY_BYTES = 6;
    private static final int NOT_ALIGNED = 7;
    private static final int NO_NAME = 8;
    private static final int DIVISION = 9;
    private static final int WRONG_NUMBER = 10;

    // The kinds of tokens; a sign's kind is its first byte, so these stay below the signs.
    private static final int END = 0;
    private static final int NAME = 1;
    private static final int NUMBER = 2;
    private static final int STRING = 3;
    private static final int UNKNOWN = 4;

    // Where a symbol lies; the first two are the sections.
    private static final int TEXT = 0;
    private static final int DATA = 1;
    private static final int CONSTANT = 2;

    // How an expression is read: with early names alone, for its form alone, or with all names.
    private static final int EARLY = 0;
    private static final int FORM = 1;
    private static final int FULL = 2;

    // What a statement does: first the directives, then the instructions by how they hold their number.
    private static final int NOTHING = 0;
    private static final int SECTION = 1;
    private static final int LIST = 2;
    private static final int QUOTE = 3;
    private static final int SPACE = 4;
    private static final int ALIGN = 5;
    private static final int EQUATE = 6;
    private static final int PLAIN = 7;
    private static final int SIGNED = 8;
    private static final int SHIFT = 9;
    private static final int STORE = 10;
    private static final int BRANCH = 11;
    private static final int UPPER = 12;
    private static final int JUMP = 13;
    private static final int ADDRESS = 14;
    private static final int LOAD_NUMBER = 15;

    private static final Statement[] STATEMENTS = Statement.values();

    private byte[] tape = new byte[256];
    private int tapeSize;
    private final Tokens tokens;
    private final Assembler assembler;

    public CodeSmith() {
        Symbols symbols = new Symbols();
        Tokens lines = new Tokens();
        tokens = lines;
        assembler = new Assembler(lines, symbols, new Calculator(lines, symbols));
    }

    public boolean feed(int a, int b, int c, int d, int e) {
        if (tapeSize + FED > TAPE_LIMIT) {
            return false;
        }
        if (tapeSize + FED > tape.length) {
            tape = Arrays.copyOf(tape, Math.min(TAPE_LIMIT, tape.length * 2));
        }
        append(a);
        append(b);
        append(c);
        append(d);
        append(e);
        return true;
    }

    public boolean end(int n) {
        if (n < 0 || n > tapeSize) {
            return false;
        }
        tapeSize = n;
        return true;
    }

    public int size() {
        return tapeSize;
    }

    public int assemble() throws IllegalArgumentException {
        int length = tapeSize;
        tapeSize = 0;
        tokens.open(tape, length);
        assembler.begin(tape);
        for (int line = 0; line < TAPE_LIMIT && tokens.toNextLine(); line++) {
            assembler.readLine();
        }
        tokens.rewind();
        assembler.beginAgain();
        for (int line = 0; line < TAPE_LIMIT && tokens.toNextLine(); line++) {
            assembler.readLine();
        }
        return assembler.finish();
    }

    public int error(int what) {
        switch (what) {
            case 0:
                return tokens.errorLine;
            case 1:
                return tokens.errorPlace;
            case 2:
                return tokens.errorKind;
            default:
                return 0;
        }
    }

    public int image(int k) {
        return assembler.made.byteAt(k);
    }

    public int about(int what) {
        switch (what) {
            case 0:
                return assembler.made.length;
            case 1:
                return assembler.made.textSize;
            case 2:
                return assembler.made.dataSize;
            case 3:
                return assembler.made.symbolCount;
            default:
                return NONE;
        }
    }

    private void append(int word) {
        for (int shift = 24; shift >= 0 && tapeSize < tape.length; shift -= 8) {
            tape[tapeSize] = (byte) (word >> shift);
            tapeSize++;
        }
    }

    /**
     * All statements, in the order of their spelling's bytes, since they are sought by halving.
     * A pattern has d, a, b for registers, e for an expression, and signs for themselves.
     */
    private enum Statement {
        DOT_ALIGN(".align", "e", ALIGN, 0),
        DOT_ASCII(".ascii", "", QUOTE, 0),
        DOT_ASCIZ(".asciz", "", QUOTE, 1),
        DOT_BYTE(".byte", "", LIST, 1),
        DOT_DATA(".data", "", SECTION, DATA),
        DOT_EQU(".equ", "", EQUATE, 0),
        DOT_GLOBL(".globl", "n", NOTHING, 0),
        DOT_HALF(".half", "", LIST, 2),
        DOT_SPACE(".space", "e", SPACE, 0),
        DOT_TEXT(".text", "", SECTION, TEXT),
        DOT_WORD(".word", "", LIST, 4),
        ADD("add", "d,a,b", PLAIN, 51, 0, 0),
        ADDI("addi", "d,a,e", SIGNED, 19, 0, 0),
        AND("and", "d,a,b", PLAIN, 51, 7, 0),
        ANDI("andi", "d,a,e", SIGNED, 19, 7, 0),
        AUIPC("auipc", "d,e", UPPER, 23),
        BEQ("beq", "a,b,e", BRANCH, 99, 0, 0),
        BEQZ("beqz", "a,e", BRANCH, 99, 0, 0),
        BGE("bge", "a,b,e", BRANCH, 99, 5, 0),
        BGEU("bgeu", "a,b,e", BRANCH, 99, 7, 0),
        BGEZ("bgez", "a,e", BRANCH, 99, 5, 0),
        BGT("bgt", "b,a,e", BRANCH, 99, 4, 0),
        BGTU("bgtu", "b,a,e", BRANCH, 99, 6, 0),
        BGTZ("bgtz", "b,e", BRANCH, 99, 4, 0),
        BLE("ble", "b,a,e", BRANCH, 99, 5, 0),
        BLEU("bleu", "b,a,e", BRANCH, 99, 7, 0),
        BLEZ("blez", "b,e", BRANCH, 99, 5, 0),
        BLT("blt", "a,b,e", BRANCH, 99, 4, 0),
        BLTU("bltu", "a,b,e", BRANCH, 99, 6, 0),
        BLTZ("bltz", "a,e", BRANCH, 99, 4, 0),
        BNE("bne", "a,b,e", BRANCH, 99, 1, 0),
        BNEZ("bnez", "a,e", BRANCH, 99, 1, 0),
        CALL("call", "e", JUMP, 111 | 1 << 7),
        DIV("div", "d,a,b", PLAIN, 51, 4, 1),
        DIVU("divu", "d,a,b", PLAIN, 51, 5, 1),
        EBREAK("ebreak", "", PLAIN, 1048691),
        ECALL("ecall", "", PLAIN, 115),
        FENCE("fence", "", PLAIN, 15),
        J("j", "e", JUMP, 111),
        JAL("jal", "d,e", JUMP, 111),
        JALR("jalr", "d,e(a)", SIGNED, 103, 0, 0),
        JR("jr", "a", PLAIN, 103),
        LA("la", "d,e", ADDRESS, 0),
        LB("lb", "d,e(a)", SIGNED, 3, 0, 0),
        LBU("lbu", "d,e(a)", SIGNED, 3, 4, 0),
        LH("lh", "d,e(a)", SIGNED, 3, 1, 0),
        LHU("lhu", "d,e(a)", SIGNED, 3, 5, 0),
        LI("li", "d,e", LOAD_NUMBER, 0),
        LUI("lui", "d,e", UPPER, 55),
        LW("lw", "d,e(a)", SIGNED, 3, 2, 0),
        MUL("mul", "d,a,b", PLAIN, 51, 0, 1),
        MULH("mulh", "d,a,b", PLAIN, 51, 1, 1),
        MULHSU("mulhsu", "d,a,b", PLAIN, 51, 2, 1),
        MULHU("mulhu", "d,a,b", PLAIN, 51, 3, 1),
        MV("mv", "d,a", PLAIN, 19),
        NEG("neg", "d,b", PLAIN, 51, 0, 32),
        NOP("nop", "", PLAIN, 19),
        NOT("not", "d,a", PLAIN, 19 | 4 << 12 | -1 << 20),
        OR("or", "d,a,b", PLAIN, 51, 6, 0),
        ORI("ori", "d,a,e", SIGNED, 19, 6, 0),
        REM("rem", "d,a,b", PLAIN, 51, 6, 1),
        REMU("remu", "d,a,b", PLAIN, 51, 7, 1),
        RET("ret", "", PLAIN, 103 | 1 << 15),
        SB("sb", "b,e(a)", STORE, 35, 0, 0),
        SEQZ("seqz", "d,a", PLAIN, 19 | 3 << 12 | 1 << 20),
        SGTZ("sgtz", "d,b", PLAIN, 51, 2, 0),
        SH("sh", "b,e(a)", STORE, 35, 1, 0),
        SLL("sll", "d,a,b", PLAIN, 51, 1, 0),
        SLLI("slli", "d,a,e", SHIFT, 19, 1, 0),
        SLT("slt", "d,a,b", PLAIN, 51, 2, 0),
        SLTI("slti", "d,a,e", SIGNED, 19, 2, 0),
        SLTIU("sltiu", "d,a,e", SIGNED, 19, 3, 0),
        SLTU("sltu", "d,a,b", PLAIN, 51, 3, 0),
        SLTZ("sltz", "d,a", PLAIN, 51, 2, 0),
        SNEZ("snez", "d,b", PLAIN, 51, 3, 0),
        SRA("sra", "d,a,b", PLAIN, 51, 5, 32),
        SRAI("srai", "d,a,e", SHIFT, 19, 5, 32),
        SRL("srl", "d,a,b", PLAIN, 51, 5, 0),
        SRLI("srli", "d,a,e", SHIFT, 19, 5, 0),
        SUB("sub", "d,a,b", PLAIN, 51, 0, 32),
        SW("sw", "b,e(a)", STORE, 35, 2, 0),
        XOR("xor", "d,a,b", PLAIN, 51, 4, 0),
        XORI("xori", "d,a,e", SIGNED, 19, 4, 0);

        final String spelling;
        final String pattern;
        final int form;
        /** Of an instruction the bits that are always set; of a directive its width, section or zeros. */
        final int code;

        Statement(String spelling, String pattern, int form, int code) {
            this.spelling = spelling;
            this.pattern = pattern;
            this.form = form;
            this.code = code;
        }

        Statement(String spelling, String pattern, int form, int op, int f, int g) {
            this(spelling, pattern, form, op | f << 12 | g << 25);
        }
    }

    /** The text, line by line, the tokens of the line at hand, and the error that was told last. */
    private static final class Tokens {
        int errorLine;
        int errorPlace;
        int errorKind;

        // The token at hand; its value is a number, a name's length, or how many bytes a string means.
        int kind;
        int start;
        int value;
        int line;

        private byte[] text = new byte[0];
        private int textEnd;
        private int lineStart;
        private int lineEnd;
        private int[] kinds = new int[32];
        private int[] starts = new int[32];
        private int[] values = new int[32];
        private int count;
        private int at;
        // A token that goes wrong in itself is the line's last; it counts only where its kind can be.
        private int flawed;
        private int flaw;

        void open(byte[] bytes, int length) {
            text = bytes;
            textEnd = Math.min(length, bytes.length);
            errorLine = 0;
            errorPlace = 0;
            errorKind = 0;
            rewind();
        }

        void rewind() {
            line = 0;
            lineEnd = NONE;
        }

        /** Whether there was one more line; its first token is at hand then. */
        boolean toNextLine() {
            lineStart = lineEnd + 1;
            if (lineStart >= textEnd) {
                return false;
            }
            lineEnd = lineStart;
            while (lineEnd < textEnd && text[lineEnd] != 10) {
                lineEnd++;
            }
            line++;
            splitLine();
            at = -1;
            advance();
            return true;
        }

        void fail(int place, int kindOfError) {
            errorLine = line;
            errorPlace = place - lineStart;
            errorKind = kindOfError;
            throw new IllegalArgumentException("the text has an error");
        }

        /** Takes the token at hand, which must be of that kind. */
        void expect(int wanted) {
            if (kind != wanted) {
                fail(start, WRONG_TOKEN);
            }
            if (at == flawed) {
                fail(flaw, WRONG_TOKEN);
            }
            advance();
        }

        /** The kind of the token behind the one at hand. */
        int kindBehind() {
            return at + 1 < count ? kinds[at + 1] : END;
        }

        /** The number of the register that the token at hand, or one so far behind it, names; or NONE. */
        int registerAhead(int distance) {
            int token = at + distance;
            if (token < 0 || token >= count || kinds[token] != NAME) {
                return NONE;
            }
            return registerNamed(starts[token], values[token]);
        }

        int registerNamed(int from, int length) {
            int n = registerDigits(from + 1, length - 1);
            if (n == NONE) {
                return registerSpelled(from, length);
            }
            switch (byteAt(from)) {
                case 'x':
                    return n <= 31 ? n : NONE;
                case 'a':
                    return n <= 7 ? 10 + n : NONE;
                case 's':
                    return n <= 1 ? 8 + n : n <= 11 ? 16 + n : NONE;
                case 't':
                    return n <= 2 ? 5 + n : n <= 6 ? 25 + n : NONE;
                default:
                    return NONE;
            }
        }

        /** Below 0, 0 or above 0, as the name there comes before the word, is it, or comes behind it. */
        int order(int from, int length, String word) {
            for (int i = 0; i < length && i < word.length() && from >= 0 && from + i < text.length; i++) {
                int difference = text[from + i] - word.charAt(i);
                if (difference != 0) {
                    return difference;
                }
            }
            return Integer.compare(length, word.length());
        }

        /** What the character at that place means between such quotes; NONE if it can't be there. */
        int meaning(int place, int quote) {
            int c = byteAt(place);
            if (c == '\\') {
                return escaped(byteAt(place + 1));
            }
            return c >= 32 && c <= 126 && c != quote ? c : NONE;
        }

        /** How many bytes the character at that place between quotes takes. */
        int widthAt(int place) {
            return byteAt(place) == '\\' ? 2 : 1;
        }

        private void advance() {
            at++;
            if (at >= 0 && at < count) {
                kind = kinds[at];
                start = starts[at];
                value = values[at];
            }
        }

        private int byteAt(int place) {
            return place >= lineStart && place < lineEnd && place < text.length ? text[place] & 255 : NONE;
        }

        private void splitLine() {
            makeRoom(lineEnd - lineStart + 1);
            count = 0;
            flawed = NONE;
            int place = lineStart;
            for (int turn = lineStart; turn < lineEnd && place < lineEnd && flawed == NONE; turn++) {
                int c = byteAt(place);
                if (c == '#') {
                    break;
                }
                if (c == 32 || c == 9 || c == 13) {
                    place++;
                } else {
                    place = splitToken(place, c);
                }
            }
            add(END, place, 0);
        }

        /** A line has no more tokens than bytes, and its end. */
        private void makeRoom(int tokens) {
            if (tokens > kinds.length) {
                int room = Math.max(tokens, kinds.length * 2);
                kinds = new int[room];
                starts = new int[room];
                values = new int[room];
            }
        }

        private void add(int tokenKind, int place, int tokenValue) {
            if (count < kinds.length) {
                kinds[count] = tokenKind;
                starts[count] = place;
                values[count] = tokenValue;
                count++;
            }
        }

        private void spoil(int place) {
            flawed = count - 1;
            flaw = place;
        }

        /** Adds the token that begins there, and tells where the next one may begin. */
        private int splitToken(int place, int c) {
            if (isOfName(c) && !isDigit(c) && (c != '.' || isOfName(byteAt(place + 1)))) {
                return splitName(place);
            }
            if (isDigit(c)) {
                return c == '0' && byteAt(place + 1) == 'x' ? splitHex(place) : splitDecimal(place);
            }
            if (c == '\'') {
                return splitCharacter(place);
            }
            if (c == '"') {
                return splitString(place);
            }
            if (c == '<' || c == '>') {
                add(c, place, 0);
                if (byteAt(place + 1) != c) {
                    spoil(place + 1);
                }
                return place + 2;
            }
            add(isSign(c) ? c : UNKNOWN, place, 0);
            return place + 1;
        }

        private int splitName(int place) {
            int next = place;
            while (next < lineEnd && isOfName(byteAt(next))) {
                next++;
            }
            add(NAME, place, next - place);
            if (next - place > NAME_LIMIT) {
                spoil(place + NAME_LIMIT);
            }
            return next;
        }

        private int splitDecimal(int place) {
            int number = 0;
            int next = place;
            while (next < lineEnd && isDigit(byteAt(next))) {
                number = number * 10 + (byteAt(next) - '0');
                next++;
            }
            add(NUMBER, place, number);
            return next;
        }

        private int splitHex(int place) {
            int number = 0;
            int next = place + 2;
            while (next < lineEnd && hexDigit(byteAt(next)) != NONE) {
                number = number << 4 | hexDigit(byteAt(next));
                next++;
            }
            add(NUMBER, place, number);
            if (next == place + 2) {
                spoil(next);
            }
            return next;
        }

        private int splitCharacter(int place) {
            int number = meaning(place + 1, '\'');
            int close = place + 1 + widthAt(place + 1);
            add(NUMBER, place, number);
            if (number == NONE) {
                spoil(close - 1);
            } else if (byteAt(close) != '\'') {
                spoil(close);
            }
            return close + 1;
        }

        private int splitString(int place) {
            int bytes = 0;
            int next = place + 1;
            while (next < lineEnd && meaning(next, '"') != NONE) {
                next += widthAt(next);
                bytes++;
            }
            add(STRING, place, bytes);
            if (byteAt(next) != '"') {
                spoil(next + widthAt(next) - 1);
            }
            return next + 1;
        }

        /** The number of a register behind its letter: one or two digits, without a 0 too many. */
        private int registerDigits(int from, int length) {
            int first = byteAt(from);
            if (length < 1 || length > 2 || !isDigit(first)) {
                return NONE;
            }
            if (length == 1) {
                return first - '0';
            }
            int second = byteAt(from + 1);
            return first != '0' && isDigit(second) ? (first - '0') * 10 + (second - '0') : NONE;
        }

        private int registerSpelled(int from, int length) {
            if (length == 4) {
                return order(from, length, "zero") == 0 ? 0 : NONE;
            }
            if (length != 2 || byteAt(from + 1) != 'p') {
                return order(from, length, "ra") == 0 ? 1 : NONE;
            }
            switch (byteAt(from)) {
                case 's':
                    return 2;
                case 'g':
                    return 3;
                case 't':
                    return 4;
                case 'f':
                    return 8;
                default:
                    return NONE;
            }
        }

        private static boolean isDigit(int c) {
            return c >= '0' && c <= '9';
        }

        private static boolean isOfName(int c) {
            return c >= 'a' && c <= 'z' || c >= 'A' && c <= 'Z' || c >= '0' && c <= '9' || c == '_' || c == '.';
        }

        private static int hexDigit(int c) {
            if (c >= '0' && c <= '9') {
                return c - '0';
            }
            if (c >= 'a' && c <= 'f') {
                return c - 'a' + 10;
            }
            return c >= 'A' && c <= 'F' ? c - 'A' + 10 : NONE;
        }

        private static int escaped(int c) {
            switch (c) {
                case 'n':
                    return 10;
                case 't':
                    return 9;
                case '0':
                    return 0;
                case '\\':
                case '\'':
                case '"':
                    return c;
                default:
                    return NONE;
            }
        }

        private static boolean isSign(int c) {
            switch (c) {
                case ',':
                case ':':
                case '(':
                case ')':
                case '+':
                case '-':
                case '*':
                case '/':
                case '%':
                case '&':
                case '|':
                case '^':
                case '~':
                case '.':
                    return true;
                default:
                    return false;
            }
        }
    }

    /** The labels and constants; a name is held by its place in the text. */
    private static final class Symbols {
        private static final int CHAINS = 256;

        int count;
        private byte[] text = new byte[0];
        private final int[] heads = new int[CHAINS];
        private int[] nexts = new int[16];
        private int[] starts = new int[16];
        private int[] lengths = new int[16];
        private int[] sections = new int[16];
        private int[] values = new int[16];
        private int[] lines = new int[16];

        void clear(byte[] bytes) {
            text = bytes;
            count = 0;
            Arrays.fill(heads, NONE);
        }

        /** The symbol that has the name which stands there in the text, or NONE. */
        int find(int start, int length) {
            int symbol = heads[chainOf(start, length)];
            for (int turn = 0; turn < count && symbol >= 0 && symbol < count; turn++) {
                if (lengths[symbol] == length && isSame(starts[symbol], start, length)) {
                    return symbol;
                }
                symbol = nexts[symbol];
            }
            return NONE;
        }

        void add(int start, int length, int section, int value, int line) {
            if (count >= starts.length) {
                grow();
            }
            int chain = chainOf(start, length);
            nexts[count] = heads[chain];
            heads[chain] = count;
            starts[count] = start;
            lengths[count] = length;
            sections[count] = section;
            values[count] = value;
            lines[count] = line;
            count++;
        }

        boolean isConstantBefore(int symbol, int line) {
            return symbol >= 0 && symbol < count && sections[symbol] == CONSTANT && lines[symbol] < line;
        }

        /** The symbol's value, where .data begins at that address; 0 if there is none. */
        int valueOf(int symbol, int dataAddress) {
            if (symbol < 0 || symbol >= count) {
                return 0;
            }
            return sections[symbol] == DATA ? dataAddress + values[symbol] : values[symbol];
        }

        private int chainOf(int start, int length) {
            int hash = 0;
            for (int i = start; i < start + length && i >= 0 && i < text.length; i++) {
                hash = hash * 31 + text[i];
            }
            return (hash ^ hash >>> 8) & (CHAINS - 1);
        }

        private boolean isSame(int one, int other, int length) {
            if (one < 0 || other < 0 || one + length > text.length || other + length > text.length) {
                return false;
            }
            for (int i = 0; i < length; i++) {
                if (text[one + i] != text[other + i]) {
                    return false;
                }
            }
            return true;
        }

        private void grow() {
            int room = starts.length * 2;
            nexts = Arrays.copyOf(nexts, room);
            starts = Arrays.copyOf(starts, room);
            lengths = Arrays.copyOf(lengths, room);
            sections = Arrays.copyOf(sections, room);
            values = Arrays.copyOf(values, room);
            lines = Arrays.copyOf(lines, room);
        }
    }

    /** Reads expressions from the tokens and reckons what they are. */
    private static final class Calculator {
        int mode;
        int here;
        int dataAddress;
        /** Whether all since this was set was of numbers and constants of lines before alone. */
        boolean early;
        private final Tokens tokens;
        private final Symbols symbols;

        Calculator(Tokens tokens, Symbols symbols) {
            this.tokens = tokens;
            this.symbols = symbols;
        }

        /** An expression whose signs, outside of brackets, bind at least so tightly (1 .. 7). */
        int expression(int least, int depth) {
            int left = operand(depth);
            for (int turn = 0; turn < TAPE_LIMIT; turn++) {
                int sign = tokens.kind;
                int level = levelOf(sign);
                if (level < least) {
                    break;
                }
                int place = tokens.start;
                tokens.expect(sign);
                int right = expression(level + 1, depth);
                left = joined(sign, left, right, place);
            }
            return left;
        }

        /** The signs before an operand make it factor * it + addend, since ~x is -x - 1. */
        private int operand(int depth) {
            int factor = 1;
            int addend = 0;
            for (int turn = 0; turn < TAPE_LIMIT && isPrefix(tokens.kind); turn++) {
                if (tokens.kind == '~') {
                    addend -= factor;
                }
                if (tokens.kind != '+') {
                    factor = -factor;
                }
                tokens.expect(tokens.kind);
            }
            switch (tokens.kind) {
                case NAME:
                    return factor * named() + addend;
                case '.':
                    return factor * addressHere() + addend;
                case '(':
                    return factor * bracketed(depth) + addend;
                case '%':
                    boolean high = readHighOrLow();
                    int whole = bracketed(depth);
                    return factor * (high ? highPart(whole) : lowPart(whole)) + addend;
                default:
                    int number = tokens.value;
                    tokens.expect(NUMBER);
                    return factor * number + addend;
            }
        }

        /** What stands in brackets; where the bracket is too deep, or none, the token at hand is the wrong one. */
        private int bracketed(int depth) {
            if (depth >= BRACKET_LIMIT) {
                tokens.fail(tokens.start, WRONG_TOKEN);
            }
            tokens.expect('(');
            int inside = expression(1, depth + 1);
            tokens.expect(')');
            return inside;
        }

        /** Takes %hi or %lo: whether it was %hi. */
        private boolean readHighOrLow() {
            tokens.expect('%');
            int start = tokens.start;
            boolean high = tokens.order(start, tokens.value, "hi") == 0;
            boolean low = tokens.order(start, tokens.value, "lo") == 0;
            tokens.expect(NAME);
            if (!high && !low) {
                tokens.fail(start, WRONG_TOKEN);
            }
            return high;
        }

        private int named() {
            int start = tokens.start;
            int length = tokens.value;
            tokens.expect(NAME);
            int symbol = symbols.find(start, length);
            if (!symbols.isConstantBefore(symbol, tokens.line)) {
                early = false;
                if (mode == EARLY) {
                    tokens.fail(start, NOT_EARLY);
                }
            }
            if (symbol == NONE && mode == FULL) {
                tokens.fail(start, NO_NAME);
            }
            return symbols.valueOf(symbol, dataAddress);
        }

        private int addressHere() {
            early = false;
            if (mode == EARLY) {
                tokens.fail(tokens.start, NOT_EARLY);
            }
            tokens.expect('.');
            return here;
        }

        private int joined(int sign, int left, int right, int place) {
            switch (sign) {
                case '*':
                    return left * right;
                case '+':
                    return left + right;
                case '-':
                    return left - right;
                case '<':
                    return left << (right & 31);
                case '>':
                    return left >> (right & 31);
                case '&':
                    return left & right;
                case '^':
                    return left ^ right;
                case '|':
                    return left | right;
                default:
                    if (right == 0) {
                        return dividedByZero(place);
                    }
                    return sign == '/' ? left / right : left % right;
            }
        }

        /** Where only the form is read, a divisor may be 0 for names without a value yet. */
        private int dividedByZero(int place) {
            early = false;
            if (mode == EARLY) {
                tokens.fail(place, EARLY_DIVISION);
            }
            if (mode == FULL) {
                tokens.fail(place, DIVISION);
            }
            return 0;
        }

        static int lowPart(int number) {
            return number << 20 >> 20;
        }

        static int highPart(int number) {
            return number - lowPart(number) >>> 12;
        }

        private static boolean isPrefix(int kind) {
            return kind == '-' || kind == '+' || kind == '~';
        }

        /** How tightly a sign between two expressions binds; 0 if it can't stand there. */
        private static int levelOf(int sign) {
            switch (sign) {
                case '*':
                case '/':
                case '%':
                    return 6;
                case '+':
                case '-':
                    return 5;
                case '<':
                case '>':
                    return 4;
                case '&':
                    return 3;
                case '^':
                    return 2;
                case '|':
                    return 1;
                default:
                    return 0;
            }
        }
    }

    /** The bytes of an image, and what is told about it; without bytes there is none. */
    private static final class Image {
        private static final int HEAD = 52;
        private static final int PART = 32;

        int length;
        int textSize;
        int dataSize;
        int symbolCount;
        private byte[] bytes = new byte[0];

        /** Makes room for so many bytes in the sections, all of them 0. */
        void prepare(int ofText, int ofData) {
            textSize = ofText;
            dataSize = ofData;
            length = placeOf(DATA) + ofData;
            if (length > bytes.length) {
                bytes = new byte[Math.max(length, Math.min(TAPE_LIMIT, bytes.length * 2))];
            } else {
                Arrays.fill(bytes, (byte) 0);
            }
        }

        /** Where the section begins in the image. */
        int placeOf(int section) {
            int parts = dataSize > 0 ? 2 : 1;
            int first = HEAD + parts * PART;
            return section == TEXT ? first : first + textSize;
        }

        /** Puts so many bytes of the value there, the lowest first. */
        void put(int place, int value, int width) {
            for (int i = 0; i < width && place >= 0 && place + i < length && place + i < bytes.length; i++) {
                bytes[place + i] = (byte) (value >> 8 * i);
            }
        }

        int byteAt(int place) {
            return place >= 0 && place < length && place < bytes.length ? bytes[place] & 255 : NONE;
        }

        void putHead(int entry, int dataAddress) {
            put(0, 0x464c457f, 4);
            put(4, 0x010101, 4);
            put(16, 2, 2);
            put(18, 243, 2);
            put(20, 1, 4);
            put(24, entry, 4);
            put(28, HEAD, 4);
            put(40, HEAD, 2);
            put(42, PART, 2);
            put(44, dataSize > 0 ? 2 : 1, 2);
            putPart(HEAD, placeOf(TEXT), 0, textSize, 5);
            if (dataSize > 0) {
                putPart(HEAD + PART, placeOf(DATA), dataAddress, dataSize, 6);
            }
        }

        private void putPart(int place, int begin, int address, int bytesOfPart, int flags) {
            put(place, 1, 4);
            put(place + 4, begin, 4);
            put(place + 8, address, 4);
            put(place + 12, address, 4);
            put(place + 16, bytesOfPart, 4);
            put(place + 20, bytesOfPart, 4);
            put(place + 24, flags, 4);
            put(place + 28, PAGE, 4);
        }
    }

    /** Goes twice through the lines: first for their form and where all lies, then for the bytes. */
    private static final class Assembler {
        Image made = new Image();
        private Image spare = new Image();
        private final Tokens tokens;
        private final Symbols symbols;
        private final Calculator calculator;
        private boolean again;
        private int section;
        private int textEnd;
        private int dataEnd;
        private int entry;
        // The statement at hand: the place of its name, its operands, and its bytes so far.
        private int place;
        private int d;
        private int a;
        private int b;
        private int value;
        private int bytes;

        Assembler(Tokens tokens, Symbols symbols, Calculator calculator) {
            this.tokens = tokens;
            this.symbols = symbols;
            this.calculator = calculator;
        }

        void begin(byte[] text) {
            symbols.clear(text);
            entry = NONE;
            again = false;
            calculator.dataAddress = 0;
            toSectionsBegin();
        }

        void beginAgain() {
            again = true;
            spare.prepare(textEnd, dataEnd);
            calculator.dataAddress = (textEnd + PAGE - 1) / PAGE * PAGE;
            toSectionsBegin();
        }

        /** The size of the image that is made now. */
        int finish() {
            spare.putHead(symbols.valueOf(entry, calculator.dataAddress), calculator.dataAddress);
            spare.symbolCount = symbols.count;
            Image old = made;
            made = spare;
            spare = old;
            return made.length;
        }

        void readLine() {
            readLabels();
            if (tokens.kind == END) {
                return;
            }
            place = tokens.start;
            int length = tokens.value;
            tokens.expect(NAME);
            Statement statement = statementNamed(place, length);
            if (statement == null) {
                tokens.fail(place, NO_STATEMENT);
                return;
            }
            clearOperands(statement.form);
            switch (statement.form) {
                case LIST:
                    readList(statement.code);
                    break;
                case QUOTE:
                    readString(statement.code);
                    break;
                case EQUATE:
                    readConstant();
                    break;
                default:
                    readOperands(patternOf(statement));
            }
            if (tokens.kind != END) {
                tokens.fail(tokens.start, WRONG_TOKEN);
            }
            if (again) {
                putInstruction(statement);
            } else {
                check(statement);
            }
            goOn(statement);
        }

        private void toSectionsBegin() {
            section = TEXT;
            textEnd = 0;
            dataEnd = 0;
        }

        private int sectionEnd() {
            return section == TEXT ? textEnd : dataEnd;
        }

        private void readLabels() {
            for (int turn = 0; turn < TAPE_LIMIT && tokens.kind == NAME && tokens.kindBehind() == ':'; turn++) {
                int start = tokens.start;
                int length = tokens.value;
                tokens.expect(NAME);
                tokens.expect(':');
                if (!again) {
                    checkNew(start, length);
                    if (tokens.order(start, length, "start") == 0) {
                        entry = symbols.count;
                    }
                    symbols.add(start, length, section, sectionEnd(), tokens.line);
                }
            }
        }

        private void checkNew(int start, int length) {
            if (tokens.registerNamed(start, length) != NONE || symbols.find(start, length) != NONE) {
                tokens.fail(start, NAME_TAKEN);
            }
        }

        private Statement statementNamed(int start, int length) {
            int low = 0;
            int high = STATEMENTS.length - 1;
            while (low <= high) {
                int middle = (low + high) / 2;
                int order = tokens.order(start, length, STATEMENTS[middle].spelling);
                if (order == 0) {
                    return STATEMENTS[middle];
                }
                if (order < 0) {
                    high = middle - 1;
                } else {
                    low = middle + 1;
                }
            }
            return null;
        }

        private void clearOperands(int form) {
            d = 0;
            a = 0;
            b = 0;
            value = 0;
            bytes = 0;
            calculator.early = true;
            calculator.here = sectionEnd() + (section == DATA ? calculator.dataAddress : 0);
            if (form == SPACE || form == ALIGN || form == EQUATE) {
                calculator.mode = EARLY;
            } else {
                calculator.mode = again ? FULL : FORM;
            }
        }

        private void readList(int width) {
            for (int turn = 0; turn < TAPE_LIMIT; turn++) {
                put(calculator.expression(1, 0), width);
                if (tokens.kind != ',') {
                    break;
                }
                tokens.expect(',');
            }
        }

        private void readString(int zeros) {
            int inside = tokens.start + 1;
            int count = tokens.value;
            tokens.expect(STRING);
            for (int i = 0; i < count; i++) {
                put(tokens.meaning(inside, '"'), 1);
                inside += tokens.widthAt(inside);
            }
            for (int i = 0; i < zeros; i++) {
                put(0, 1);
            }
        }

        /** The constant is added behind all else of its line, so that it is none in its own expression. */
        private void readConstant() {
            int start = tokens.start;
            int length = tokens.value;
            tokens.expect(NAME);
            if (!again) {
                checkNew(start, length);
            }
            tokens.expect(',');
            int number = calculator.expression(1, 0);
            if (!again) {
                symbols.add(start, length, CONSTANT, number, tokens.line);
            }
        }

        /** The pattern, or the shorter one that jal and jalr have too. */
        private String patternOf(Statement statement) {
            if (statement == Statement.JAL && tokens.registerAhead(0) == NONE) {
                d = 1;
                return "e";
            }
            if (statement == Statement.JALR && tokens.kindBehind() != ',') {
                d = 1;
                return "a";
            }
            return statement.pattern;
        }

        private void readOperands(String pattern) {
            for (int i = 0; i < pattern.length(); i++) {
                int sign = pattern.charAt(i);
                switch (sign) {
                    case 'd':
                        d = readRegister();
                        break;
                    case 'a':
                        a = readRegister();
                        break;
                    case 'b':
                        b = readRegister();
                        break;
                    case 'n':
                        tokens.expect(NAME);
                        break;
                    case 'e':
                        if (!isBaseAlone(pattern, i)) {
                            value = calculator.expression(1, 0);
                        }
                        break;
                    default:
                        tokens.expect(sign);
                }
            }
        }

        private int readRegister() {
            int start = tokens.start;
            int register = tokens.registerAhead(0);
            tokens.expect(NAME);
            if (register == NONE) {
                tokens.fail(start, WRONG_TOKEN);
            }
            return register;
        }

        /** Whether (a) stands where e(a) can be. */
        private boolean isBaseAlone(String pattern, int i) {
            return i + 1 < pattern.length() && pattern.charAt(i + 1) == '('
                && tokens.kind == '(' && tokens.registerAhead(1) != NONE;
        }

        /** The errors that come behind all others of the first time. */
        private void check(Statement statement) {
            if (statement.form >= PLAIN && (sectionEnd() & 3) != 0) {
                tokens.fail(place, NOT_ALIGNED);
            }
            if (statement.form == SPACE && (value < 0 || value > BYTES_LIMIT)) {
                tokens.fail(place, TOO_MANY_BYTES);
            }
            if (statement.form == ALIGN && (value < 0 || value > ALIGN_LIMIT)) {
                tokens.fail(place, TOO_MANY_BYTES);
            }
            if (textEnd + dataEnd + bytesOf(statement) > BYTES_LIMIT) {
                tokens.fail(place, TOO_MANY_BYTES);
            }
        }

        private void goOn(Statement statement) {
            int more = bytesOf(statement);
            if (section == TEXT) {
                textEnd += more;
            } else {
                dataEnd += more;
            }
            if (statement.form == SECTION) {
                section = statement.code;
            }
        }

        private int bytesOf(Statement statement) {
            switch (statement.form) {
                case NOTHING:
                case SECTION:
                case EQUATE:
                    return 0;
                case LIST:
                case QUOTE:
                    return bytes;
                case SPACE:
                    return value;
                case ALIGN:
                    return -sectionEnd() & ((1 << value) - 1);
                case ADDRESS:
                    return 8;
                case LOAD_NUMBER:
                    return isShort() ? 4 : 8;
                default:
                    return 4;
            }
        }

        private boolean isShort() {
            return calculator.early && value >= -2048 && value <= 2047;
        }

        private void put(int number, int width) {
            if (again) {
                spare.put(spare.placeOf(section) + sectionEnd() + bytes, number, width);
            }
            bytes += width;
        }

        private void putInstruction(Statement statement) {
            int always = statement.code | d << 7 | a << 15 | b << 20;
            int from = value - calculator.here;
            switch (statement.form) {
                case PLAIN:
                    put(always, 4);
                    break;
                case SIGNED:
                    checkNumber(value, -2048, 2047);
                    put(always | value << 20, 4);
                    break;
                case SHIFT:
                    checkNumber(value, 0, 31);
                    put(always | value << 20, 4);
                    break;
                case STORE:
                    checkNumber(value, -2048, 2047);
                    put(always | value >> 5 << 25 | (value & 31) << 7, 4);
                    break;
                case BRANCH:
                    checkDistance(from, 4096);
                    put(always | branchBits(from), 4);
                    break;
                case UPPER:
                    checkNumber(value, 0, 1048575);
                    put(always | value << 12, 4);
                    break;
                case JUMP:
                    checkDistance(from, 1048576);
                    put(always | jumpBits(from), 4);
                    break;
                case ADDRESS:
                    putAddress();
                    break;
                case LOAD_NUMBER:
                    if (isShort()) {
                        put(Statement.ADDI.code | d << 7 | value << 20, 4);
                    } else {
                        putAddress();
                    }
                    break;
                default:
                    break;
            }
        }

        private void putAddress() {
            put(Statement.LUI.code | d << 7 | Calculator.highPart(value) << 12, 4);
            put(Statement.ADDI.code | d << 7 | d << 15 | Calculator.lowPart(value) << 20, 4);
        }

        private void checkNumber(int number, int least, int most) {
            if (number < least || number > most) {
                tokens.fail(place, WRONG_NUMBER);
            }
        }

        private void checkDistance(int from, int limit) {
            if ((from & 1) != 0 || from < -limit || from >= limit) {
                tokens.fail(place, WRONG_NUMBER);
            }
        }

        private static int branchBits(int from) {
            return from >> 12 << 31 | (from >> 5 & 63) << 25 | (from >> 1 & 15) << 8 | (from >> 11 & 1) << 7;
        }

        private static int jumpBits(int from) {
            return from >> 20 << 31 | (from >> 1 & 1023) << 21 | (from >> 11 & 1) << 20 | (from >> 12 & 255) << 12;
        }
    }
}
