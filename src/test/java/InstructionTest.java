/** Promise 5: every instruction; the words are those of another assembler for this processor. */
public final class InstructionTest {
    public static void main(String[] args) {
        registers();
        bare();
        wide();
        edges();
        Bench.finish();
    }

    private static void encodes(String text, int word) {
        Bench.words(text, word);
        Bench.words("nop\n\t" + text + " # x\r\n", 19, word);
    }

    private static void registers() {
        encodes("add ra, sp, gp", 0x003100b3);
        encodes("sub a0, s11, t6", 0x41fd8533);
        encodes("sll x31, zero, fp", 0x00801fb3);
        encodes("slt x5, x6, x7", 0x007322b3);
        encodes("sltu ra, sp, gp", 0x003130b3);
        encodes("xor a0, s11, t6", 0x01fdc533);
        encodes("srl x31, zero, fp", 0x00805fb3);
        encodes("sra x5, x6, x7", 0x407352b3);
        encodes("or ra, sp, gp", 0x003160b3);
        encodes("and a0, s11, t6", 0x01fdf533);
        encodes("mul x31, zero, fp", 0x02800fb3);
        encodes("mulh x5, x6, x7", 0x027312b3);
        encodes("mulhsu ra, sp, gp", 0x023120b3);
        encodes("mulhu a0, s11, t6", 0x03fdb533);
        encodes("div x31, zero, fp", 0x02804fb3);
        encodes("divu x5, x6, x7", 0x027352b3);
        encodes("rem ra, sp, gp", 0x023160b3);
        encodes("remu a0, s11, t6", 0x03fdf533);
        encodes("addi x31, zero, -2048", 0x80000f93);
        encodes("slti x5, x6, 2047", 0x7ff32293);
        encodes("sltiu ra, sp, -1", 0xfff13093);
        encodes("xori a0, s11, 5", 0x005dc513);
        encodes("ori x31, zero, 0", 0x00006f93);
        encodes("andi x5, x6, 1365", 0x55537293);
        encodes("slli ra, sp, 0", 0x00011093);
        encodes("slli a0, s11, 31", 0x01fd9513);
        encodes("srli x31, zero, 1", 0x00105f93);
        encodes("srai x5, x6, 31", 0x41f35293);
        encodes("srai ra, sp, 4", 0x40415093);
        encodes("lb a0, -2048(s11)", 0x800d8503);
        encodes("lb s11, (t6)", 0x000f8d83);
        encodes("lh x31, 2047(zero)", 0x7ff01f83);
        encodes("lh zero, (fp)", 0x00041003);
        encodes("lw x5, -1(x6)", 0xfff32283);
        encodes("lw x6, (x7)", 0x0003a303);
        encodes("lbu ra, 5(sp)", 0x00514083);
        encodes("lbu sp, (gp)", 0x0001c103);
        encodes("lhu a0, 0(s11)", 0x000dd503);
        encodes("lhu s11, (t6)", 0x000fdd83);
        encodes("sb x31, 1365(zero)", 0x55f00aa3);
        encodes("sb zero, (fp)", 0x00040023);
        encodes("sh x5, -2048(x6)", 0x80531023);
        encodes("sh x6, (x7)", 0x00639023);
        encodes("sw ra, 2047(sp)", 0x7e112fa3);
        encodes("sw sp, (gp)", 0x0021a023);
        encodes("beq a0, s11, .+4094", 0x7fb50fe3);
        encodes("bne x31, zero, .+-4096", 0x800f9063);
        encodes("blt x5, x6, .+2048", 0x0062c0e3);
        encodes("bge ra, sp, .+-2", 0xfe20dfe3);
        encodes("bltu a0, s11, .+30", 0x01b56f63);
        encodes("bgeu x31, zero, .+0", 0x000ff063);
        encodes("bgt x5, x6, .+-2048", 0x805340e3);
        encodes("ble ra, sp, .+1366", 0x54115b63);
        encodes("bgtu a0, s11, .+2", 0x00ade163);
        encodes("bleu x31, zero, .+-1366", 0xabf075e3);
        encodes("beqz x5, .+8", 0x00028463);
        encodes("bnez ra, .+-8", 0xfe009ce3);
        encodes("bltz a0, .+4094", 0x7e054fe3);
        encodes("bgez x31, .+-4096", 0x800fd063);
        encodes("bgtz x5, .+100", 0x06504263);
        encodes("blez ra, .+-100", 0xf8105ee3);
        encodes("lui a0, 0", 0x00000537);
        encodes("lui x31, 1048575", 0xffffffb7);
        encodes("auipc x5, 74565", 0x12345297);
        encodes("auipc ra, 1048575", 0xfffff097);
        encodes("jal x0, .+1048574", 0x7ffff06f);
        encodes("jal t0, .+-1048576", 0x800002ef);
        encodes("jal .+2048", 0x001000ef);
        encodes("jal .+-2", 0xfffff0ef);
        encodes("jal a7, .+699050", 0x2abaa8ef);
        encodes("j .-4", 0xffdff06f);
        encodes("call .+4096", 0x000010ef);
        encodes("jalr x1, 8(x2)", 0x008100e7);
        encodes("jalr x0, -2048(a0)", 0x80050067);
        encodes("jalr s3, (s4)", 0x000a09e7);
        encodes("jalr t0", 0x000280e7);
        encodes("jr t1", 0x00030067);
        encodes("ret", 0x00008067);
        encodes("ecall", 0x00000073);
        encodes("ebreak", 0x00100073);
        encodes("nop", 0x00000013);
        encodes("mv a0, s11", 0x000d8513);
        encodes("not x31, zero", 0xfff04f93);
        encodes("neg x5, x6", 0x406002b3);
        encodes("seqz ra, sp", 0x00113093);
        encodes("snez a0, s11", 0x01b03533);
        encodes("sltz x31, zero", 0x00002fb3);
        encodes("sgtz x5, x6", 0x006022b3);
        encodes("fence", 15);
    }

    /** With x0 and 0 alone nothing but op, f and g is left. */
    private static void bare() {
        String[] loads = {"lb", "lh", "lw", "", "lbu", "lhu"};
        String[] stores = {"sb", "sh", "sw"};
        String[] immediates = {"addi", "", "slti", "sltiu", "xori", "", "ori", "andi"};
        String[] branches = {"beq", "bne", "", "", "blt", "bge", "bltu", "bgeu"};
        String[] turned = {"", "", "", "", "bgt", "ble", "bgtu", "bleu"};
        String[] zero = {"beqz", "bnez", "", "", "bltz", "bgez"};
        String[] zeroFirst = {"", "", "", "", "bgtz", "blez"};
        bare(loads, "x0, 0(x0)", 3);
        bare(stores, "x0, 0(x0)", 35);
        bare(immediates, "x0, x0, 0", 19);
        bare(branches, "x0, x0, .", 99);
        bare(turned, "x0, x0, .", 99);
        bare(zero, "x0, .", 99);
        bare(zeroFirst, "x0, .", 99);
        encodes("slli x0, x0, 0", 0x00001013);
        encodes("srli x0, x0, 0", 0x00005013);
        encodes("srai x0, x0, 0", 0x40005013);
        encodes("lui x0, 0", 0x00000037);
        encodes("auipc x0, 0", 0x00000017);
        encodes("jal x0, .", 0x0000006f);
        encodes("jal .", 0x000000ef);
        encodes("j .", 0x0000006f);
        encodes("call .", 0x000000ef);
        encodes("jalr x0, 0(x0)", 0x00000067);
        encodes("jalr x0", 0x000000e7);
        encodes("addi x0, x0, 8|1^0&3<<0+4*5", 0x00900013);
        encodes("lw x0, 8|1(x0)", 0x00902003);
    }

    private static void bare(String[] names, String operands, int op) {
        for (int f = 0; f < names.length; f++) {
            if (!names[f].isEmpty()) {
                encodes(names[f] + " " + operands, op | f << 12);
            }
        }
    }

    private static void wide() {
        Bench.words("la a0, 0x12345fff", 0x12346537, 0xfff50513);
        Bench.words("la x0, 0", 0x00000037, 0x00000013);
        Bench.words("nop\nla t6, .+4", 19, 0x00000fb7, 0x008f8f93);
        Bench.words("la a0, d\n.data\n.byte 1,2,3,4\nd: .word 5", 0x00001537, 0x00450513, 0x04030201, 5);
    }

    private static void fits(String statement, String number) {
        Bench.made(statement.replace("?", number));
    }

    private static void misses(String statement, String number) {
        Bench.refused("a: " + statement.replace("?", number), 1, 3, 10);
    }

    /** The least and the greatest number that each instruction can have, and those next to them. */
    private static void edges() {
        for (String name : new String[] {"addi", "slti", "sltiu", "xori", "ori", "andi"}) {
            signed(name + " x1, x2, ?");
        }
        for (String name : new String[] {"lb", "lh", "lw", "lbu", "lhu", "sb", "sh", "sw", "jalr"}) {
            signed(name + " x1, ?(x2)");
        }
        for (String name : new String[] {"slli", "srli", "srai"}) {
            between(name + " x1, x2, ?", "0", "31", "-1", "32");
        }
        for (String name : new String[] {"lui", "auipc"}) {
            between(name + " x1, ?", "0", "1048575", "-1", "1048576");
        }
        for (String name : new String[] {"beq", "bne", "blt", "bge", "bltu", "bgeu", "bgt", "ble", "bgtu", "bleu"}) {
            branch(name + " x1, x2, .+?");
        }
        for (String name : new String[] {"beqz", "bnez", "bltz", "bgez", "bgtz", "blez"}) {
            branch(name + " x1, .+?");
        }
        for (String name : new String[] {"jal x5,", "jal", "j", "call"}) {
            between(name + " .+?", "-1048576", "1048574", "-1048578", "1048576");
            misses(name + " .+?", "1");
            misses(name + " .+?", "0x7fffffff");
        }
    }

    private static void signed(String statement) {
        between(statement, "-2048", "2047", "-2049", "2048");
        misses(statement, "0x7fffffff");
        misses(statement, "0x80000000");
    }

    private static void branch(String statement) {
        between(statement, "-4096", "4094", "-4098", "4096");
        misses(statement, "-4097");
        misses(statement, "4095");
        misses(statement, "1");
    }

    private static void between(String statement, String least, String most, String below, String above) {
        fits(statement, least);
        fits(statement, most);
        misses(statement, below);
        misses(statement, above);
    }
}
