/** Promises 2, 3 and 4: feed, end and size. */
public final class TapeTest {
    public static void main(String[] args) {
        bytesInOrder();
        ends();
        feedBehindEnd();
        full();
        Bench.finish();
    }

    private static void bytesInOrder() {
        CodeSmith smith = new CodeSmith();
        // .ascii "abcdefghijk" and a byte 10: twenty bytes.
        Bench.due("feed", smith.feed(0x2e617363, 0x69692261, 0x62636465, 0x66676869, 0x6a6b220a), true);
        Bench.due("size", smith.size(), 20);
        Bench.due("assemble", Bench.assemble(smith), 95);
        for (int i = 0; i < 11; i++) {
            Bench.due("byte " + i, smith.image(84 + i), 'a' + i);
        }
    }

    private static void ends() {
        CodeSmith smith = new CodeSmith();
        Bench.due("end(0)", smith.end(0), true);
        Bench.due("end(1)", smith.end(1), false);
        Bench.due("end(-1)", smith.end(-1), false);
        Bench.due("feed", smith.feed(0, 0, 0, 0, 0), true);
        Bench.due("end(21)", smith.end(21), false);
        Bench.due("end(MIN)", smith.end(Integer.MIN_VALUE), false);
        Bench.due("end(MAX)", smith.end(Integer.MAX_VALUE), false);
        Bench.due("size", smith.size(), 20);
        Bench.due("end(20)", smith.end(20), true);
        Bench.due("size", smith.size(), 20);
        Bench.due("end(7)", smith.end(7), true);
        Bench.due("size", smith.size(), 7);
        Bench.due("end(8)", smith.end(8), false);
        Bench.due("size", smith.size(), 7);
        Bench.due("end(0)", smith.end(0), true);
        Bench.due("size", smith.size(), 0);
    }

    private static void feedBehindEnd() {
        CodeSmith smith = new CodeSmith();
        Bench.feed(smith, ".byte 1");
        Bench.feed(smith, "2, 34");
        Bench.due("size", smith.size(), 12);
        Bench.due("assemble", Bench.assemble(smith), 86);
        Bench.due("byte 0", smith.image(84), 12);
        Bench.due("byte 1", smith.image(85), 34);
        Bench.due("size", smith.size(), 0);
    }

    /** More calls than are promised, since no room is left only behind them. */
    private static void full() {
        CodeSmith smith = new CodeSmith();
        int blanks = 0x20202020;
        for (int n = 1; n <= 3276; n++) {
            Bench.due("feed " + n, smith.feed(blanks, blanks, blanks, blanks, blanks), true);
        }
        Bench.due("size", smith.size(), 65520);
        Bench.due("feed without room", smith.feed(blanks, blanks, blanks, blanks, blanks), false);
        Bench.due("size", smith.size(), 65520);
        Bench.due("end(65516)", smith.end(65516), true);
        Bench.due("feed up to the limit", smith.feed(blanks, blanks, blanks, blanks, blanks), true);
        Bench.due("size", smith.size(), 65536);
        Bench.due("end(65536)", smith.end(65536), true);
        Bench.due("assemble", Bench.assemble(smith), 84);
        Bench.due("size", smith.size(), 0);
    }
}
