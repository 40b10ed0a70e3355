/** Boundary cases of promises 1 to 4: a new object, feed, end and size; a method for each sentence. */
public final class TapeBoundaryTest {
    private static final int BLANKS = 0x20202020;
    private static final int LIMIT = 65536;

    public static void main(String[] args) {
        noTapeAndNoImage();
        highestByteFirst();
        roomForTwenty();
        refusedFeedChangesNothing();
        firstBytesAlone();
        bytesBehindTheEnd();
        refusedEndChangesNothing();
        sizeBehindEveryCall();
        emptyBehindAssemble();
        Bench.finish();
    }

    private static boolean feedBlanks(CodeSmith smith) {
        return smith.feed(BLANKS, BLANKS, BLANKS, BLANKS, BLANKS);
    }

    /** A tape of so many blanks; more calls than are promised, since a full one is out of their reach. */
    private static CodeSmith withBlanks(int size) {
        CodeSmith smith = new CodeSmith();
        for (int n = 0; n < size / 20; n++) {
            Bench.due("feed", feedBlanks(smith), true);
        }
        if (size % 20 != 0) {
            Bench.due("end", smith.end(size - 20), true);
            Bench.due("feed", feedBlanks(smith), true);
        }
        Bench.due("size", smith.size(), size);
        return smith;
    }

    /** "No tape, no image." */
    private static void noTapeAndNoImage() {
        CodeSmith smith = new CodeSmith();
        Bench.due("size of a new one", smith.size(), 0);
        Bench.due("end(1) of a new one", smith.end(1), false);
        Bench.due("end(0) of a new one", smith.end(0), true);
        Bench.due("image(0) of a new one", smith.image(0), -1);
        for (int what = 0; what < 4; what++) {
            Bench.due("about(" + what + ") of a new one", smith.about(what), 0);
            Bench.due("error(" + what + ") of a new one", smith.error(what), 0);
        }
        Bench.due("assemble of a new one", Bench.assemble(smith), 84);
    }

    /** "Twenty bytes come to the tape, the highest of each int first": each place told by a byte that is wrong there. */
    private static void highestByteFirst() {
        for (int place = 0; place < 20; place++) {
            for (int wrong : new int[] {0, 1, 127, 128, 255}) {
                int[] words = {BLANKS, BLANKS, BLANKS, BLANKS, BLANKS};
                int shift = 24 - place % 4 * 8;
                words[place / 4] = words[place / 4] & ~(255 << shift) | wrong << shift;
                CodeSmith smith = new CodeSmith();
                Bench.due("feed", smith.feed(words[0], words[1], words[2], words[3], words[4]), true);
                Bench.due("size", smith.size(), 20);
                Bench.due("assemble", Bench.assemble(smith), -1);
                Bench.due("place of the byte " + wrong, smith.error(1), place);
            }
        }
    }

    /** "false .. if there is no room": with 20 bytes left there is room, with 19 there is none. */
    private static void roomForTwenty() {
        CodeSmith smith = withBlanks(LIMIT - 16);
        Bench.due("feed with 16 left", feedBlanks(smith), false);
        Bench.due("end", smith.end(LIMIT - 15), false);
        Bench.due("end", smith.end(LIMIT - 36), true);
        Bench.due("feed with 36 left", feedBlanks(smith), true);
        Bench.due("end", smith.end(LIMIT - 15), false);
        Bench.due("end", smith.end(LIMIT - 20), true);
        Bench.due("feed with 20 left", feedBlanks(smith), true);
        Bench.due("size", smith.size(), LIMIT);
        for (int left = 0; left < 20; left++) {
            Bench.due("end", smith.end(LIMIT - left), true);
            Bench.due("feed with " + left + " left", feedBlanks(smith), false);
            Bench.due("size", smith.size(), LIMIT - left);
        }
        Bench.due("end(0)", smith.end(0), true);
        Bench.due("feed with all left", feedBlanks(smith), true);
    }

    /** "changing nothing": neither the size nor a byte of the tape. */
    private static void refusedFeedChangesNothing() {
        CodeSmith smith = withBlanks(LIMIT - 20);
        // "\n.byte 1,2,3,4,5#xxx": twenty bytes that end the tape.
        Bench.due("feed", smith.feed(0x0a2e6279, 0x74652031, 0x2c322c33, 0x2c342c35, 0x23787878), true);
        Bench.due("feed without room", smith.feed(-1, -1, -1, -1, -1), false);
        Bench.due("size", smith.size(), LIMIT);
        Bench.due("end", smith.end(LIMIT - 4), true);
        Bench.due("feed without room", smith.feed(-1, -1, -1, -1, -1), false);
        Bench.due("size", smith.size(), LIMIT - 4);
        Bench.due("assemble", Bench.assemble(smith), 89);
        for (int i = 0; i < 5; i++) {
            Bench.due("byte " + i, smith.image(84 + i), i + 1);
        }
    }

    /** "The tape has its first n bytes alone: true", from all of them down to none. */
    private static void firstBytesAlone() {
        // ".byte 1,2,3,4,5,6,7 ": behind 7 bytes, and behind each two more, there are more numbers.
        for (int n = 20; n >= 0; n--) {
            CodeSmith smith = new CodeSmith();
            Bench.due("feed", smith.feed(0x2e627974, 0x6520312c, 0x322c332c, 0x342c352c, 0x362c3720), true);
            Bench.due("end(" + n + ")", smith.end(n), true);
            Bench.due("size", smith.size(), n);
            boolean whole = n == 0 || n >= 7 && (n % 2 == 1 || n == 20);
            Bench.due("assemble of " + n, Bench.assemble(smith), !whole ? -1 : n == 0 ? 84 : 84 + (n - 5) / 2);
        }
        CodeSmith smith = new CodeSmith();
        Bench.feed(smith, ".byte 1,2,3");
        Bench.due("end(7)", smith.end(7), true);
        Bench.due("what is cut off is gone", smith.end(8), false);
        Bench.feed(smith, "9");
        Bench.due("assemble", Bench.assemble(smith), 85);
        Bench.due("the byte", smith.image(84), 19);
    }

    /** What was on the tape behind its end, now or in an earlier text, does not make a token longer. */
    private static void bytesBehindTheEnd() {
        cut(".byte 0x1", 7, 0, 0);
        cut(".byte 12", 7, 1, 0);
        cut(".byte ..", 7, 0, 0);
        cut(".byte 2<<3", 8, 8, 1);
        cut(".byte 2>>3", 8, 8, 1);
        cut(".byte 'a'", 8, 8, 1);
        cut(".byte '\\n'", 8, 8, 1);
        cut(".byte 0x1", 8, 8, 1);
        cut(".ascii \"a\"", 9, 9, 1);
        cut(".ascii \"\\n\"", 9, 9, 1);
        cut("a: .byte 1", 1, 0, 3);
        cut("nop_", 3, 19, 0);
        cut("nop @", 4, 19, 0);
        cut("a:", 1, 0, 3);
        cut("foo\n", 3, 0, 3);
    }

    /** The text's first n bytes alone make this first byte of .text, or are refused at that place. */
    private static void cut(String text, int n, int answer, int kind) {
        CodeSmith smith = new CodeSmith();
        Bench.feed(smith, text);
        Bench.due("end", smith.end(n), true);
        checkCut(text, smith, answer, kind);
        Bench.feed(smith, text);
        Bench.assemble(smith);
        Bench.feed(smith, text.substring(0, n));
        checkCut(text, smith, answer, kind);
    }

    private static void checkCut(String text, CodeSmith smith, int answer, int kind) {
        Bench.due(text + ": thrown", Bench.assemble(smith) < 0, kind != 0);
        Bench.due(text + ": kind", smith.error(2), kind);
        Bench.due(text + ": place or byte", kind == 0 ? smith.image(84) : smith.error(1), answer);
    }

    /** "false if it has less, or n is below 0": and the tape stays. */
    private static void refusedEndChangesNothing() {
        CodeSmith smith = new CodeSmith();
        Bench.feed(smith, ".byte 1");
        for (int n : new int[] {8, 9, 20, 65536, 65537, Integer.MAX_VALUE, -1, -7, Integer.MIN_VALUE}) {
            Bench.due("end(" + n + ")", smith.end(n), false);
            Bench.due("size", smith.size(), 7);
        }
        Bench.due("end(7)", smith.end(7), true);
        Bench.due("assemble", Bench.assemble(smith), 85);
        CodeSmith full = withBlanks(LIMIT);
        Bench.due("end(65537)", full.end(LIMIT + 1), false);
        Bench.due("end(65536)", full.end(LIMIT), true);
        Bench.due("size", full.size(), LIMIT);
        Bench.due("end(65535)", full.end(LIMIT - 1), true);
        Bench.due("end(65536)", full.end(LIMIT), false);
        Bench.due("size", full.size(), LIMIT - 1);
    }

    /** "How many bytes the tape has.": within the calls that are promised. */
    private static void sizeBehindEveryCall() {
        CodeSmith smith = new CodeSmith();
        for (int n = 1; n <= 255; n++) {
            Bench.due("feed " + n, feedBlanks(smith), true);
            Bench.due("size", smith.size(), 20 * n);
        }
        Bench.due("assemble", Bench.assemble(smith), 84);
        Bench.due("size", smith.size(), 0);
    }

    /** "Takes the tape (it is empty then)": also if it throws, and if it was empty before. */
    private static void emptyBehindAssemble() {
        CodeSmith smith = new CodeSmith();
        for (String text : new String[] {"nop", "@", "j nowhere", ""}) {
            Bench.feed(smith, text);
            int due = text.equals("nop") ? 88 : text.isEmpty() ? 84 : -1;
            Bench.due("assemble " + text, Bench.assemble(smith), due);
            Bench.due("size", smith.size(), 0);
            Bench.due("end(1)", smith.end(1), false);
            Bench.due("assemble of nothing", Bench.assemble(smith), 84);
            Bench.due("size", smith.size(), 0);
        }
    }
}
