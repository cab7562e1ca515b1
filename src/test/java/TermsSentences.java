import java.math.BigInteger;
import java.util.ArrayList;
import java.util.List;

/** The sentences of the document's section 'Terms', and what it says before of the life of an object. */
final class TermsSentences {
    private static final String TERMS = "Terms";
    private static final String ILLEGAL = " = throws.IllegalArgumentException; ";
    private static final String LARGE = " = throws.UnsupportedOperationException; ";
    private static final String ARITHMETIC = " = throws.ArithmeticException; ";

    /** Every call that asks for registers, each of which stands as #. */
    private static final String[] CALLS_OF_REGISTERS = {
        "set # 5", "move # #", "reckon # # # 0", "reckon # # # 1", "reckon # # # 2", "divide # # # 0", "divide # # # 1",
        "divide # # # 2", "divide # # # 3", "combine # # # 0", "combine # # # 1", "combine # # # 2", "shift # # 1",
        "shift # # -1", "power # # 2", "power # # 0", "root # #", "common # # #", "powerRest # # # #", "compare # #",
        "low #", "length #", "bit # 0", "ones #", "read # 10", "print # 10",
    };

    /** Calls that throw IllegalArgumentException when the registers are as someState() makes them. */
    private static final String[] ILLEGAL_CALLS = {
        "set 16 5", "set -1 5", "move 0 16", "move 16 0", "reckon 0 1 16 0", "reckon 0 16 1 1", "reckon 0 1 2 3",
        "reckon 0 1 2 -1", "divide 0 1 16 0", "divide 0 16 1 0", "divide 0 1 2 4", "divide 0 1 2 -1",
        "combine 0 1 16 0", "combine 0 16 1 0", "combine 0 1 2 3", "combine 0 1 2 -1", "shift 0 16 1",
        "shift 0 1 9001", "shift 0 1 -9001", "power 0 16 1", "power 0 1 -1", "power 0 1 8193", "root 0 16",
        "common 0 1 16", "common 0 16 1", "powerRest 0 16 1 2", "powerRest 0 1 16 2", "powerRest 0 1 2 16",
        "powerRest 0 1 12 2", "powerRest 0 1 2 12", "powerRest 12 12 12 12", "compare 0 16", "compare 16 0",
        "low 16", "length 16", "bit 16 0", "bit 0 -1", "ones 16", "read 16 10", "read 0 1", "read 0 37",
        "print 16 10", "print 0 1", "print 0 37",
    };
    /** The same for UnsupportedOperationException. */
    private static final String[] LARGE_CALLS = {
        "reckon 0 14 14 0", "reckon 14 14 14 0", "reckon 0 13 14 1", "reckon 13 13 14 1", "reckon 0 14 14 2",
        "reckon 14 14 14 2", "combine 0 15 10 2", "combine 15 15 10 2", "combine 10 15 10 2", "shift 0 14 1",
        "shift 14 14 1", "shift 10 10 8192", "shift 13 13 9000", "power 0 14 2", "power 14 14 2", "power 1 1 8192",
        "power 13 13 3",
    };
    /** The same for ArithmeticException. */
    private static final String[] ARITHMETIC_CALLS = {
        "divide 0 1 11 0", "divide 0 1 11 1", "divide 0 1 11 2", "divide 0 1 11 3", "divide 11 11 11 0",
        "divide 1 1 11 0", "root 0 10", "root 10 10", "root 13 13", "powerRest 0 1 10 2", "powerRest 0 1 2 11",
        "powerRest 0 1 2 10", "powerRest 10 1 10 2", "powerRest 10 1 2 10", "powerRest 11 1 2 11",
    };

    private TermsSentences() {
    }

    static void hold() {
        life();
        registers();
        tooLarge();
        fromWhatAllHadBefore();
        divided();
        bits();
        digits();
        printedForm();
        whichExceptionFirst();
        changesNothing();
        noSuchRegister();
    }

    private static void life() {
        Sentences.hold("What it is", "An object is used for at most 512 calls after it has been made",
            "set 0 3; set 1 1000003; " + "powerRest 2 0 1 1; ".repeat(509) + "low 2 = 3; ",
            "feed 48 = true; ".repeat(511) + "read 0 10 = -1; ",
            Sentences.EDGES + "common 6 3 4; root 7 3; print 4 3 = 5170; ".repeat(168) + "compare 6 3 = 0; ");
    }

    private static void registers() {
        StringBuilder apart = new StringBuilder();
        StringBuilder first = new StringBuilder();
        for (int r = 0; r < 16; r++) {
            apart.append("set %d %d; ".formatted(r, 100 + r));
            first.append("printed %d 10 = 0; low %d = 0; ".formatted(r, r));
        }
        for (int r = 0; r < 16; r++) {
            apart.append("low %d = %d; ".formatted(r, 100 + r));
        }
        Sentences.hold(TERMS, "There are REGISTERS 0 .. 15, each a whole number",
            apart.toString(), onlyRegister("0"), onlyRegister("1"), onlyRegister("14"), onlyRegister("15"));
        Sentences.hold(TERMS, "at first 0", first.toString());
    }

    /** Every call with one register alone, which is 5 before each. */
    private static String onlyRegister(String r) {
        int[] due = {5, 5, 10, 0, 25, 1, 0, 1, 0, 5, 5, 0, 10, 2, 25, 1, 2, 5, 0};
        StringBuilder run = new StringBuilder();
        for (int i = 0; i < due.length; i++) {
            run.append("set # 5; %s; low # = %d; ".formatted(CALLS_OF_REGISTERS[i], due[i]));
        }
        run.append("""
            set # 5
            compare # # = 0
            low # = 5
            length # = 3
            bit # 0 = true
            ones # = 2
            printed # 10 = 5
            feedAll 77
            read # 10 = -1
            low # = 77
            """);
        return run.toString().replace("#", r);
    }

    private static void tooLarge() {
        Sentences.hold(TERMS, "A number is TOO LARGE when it is 2^8192 or more",
            Sentences.EDGES + """
            length 3 = 8192
            ones 3 = 8192
            reckon 6 2 2 0 = throws.UnsupportedOperationException
            reckon 6 3 0 0 = throws.UnsupportedOperationException
            reckon 6 3 3 0 = throws.UnsupportedOperationException
            reckon 6 2 5 1 = throws.UnsupportedOperationException
            reckon 6 3 1 1 = throws.UnsupportedOperationException
            reckon 6 3 4 1 = throws.UnsupportedOperationException
            length 6 = 0
            reckon 6 2 0 1
            reckon 7 6 2 0
            compare 7 3 = 0
            reckon 7 6 5 1
            compare 7 3 = 0
            reckon 7 3 1 0
            reckon 7 7 1 1
            compare 7 3 = 0
            """,
            Sentences.EDGES + """
            shift 6 0 4096
            shift 7 0 4095
            reckon 8 6 6 2 = throws.UnsupportedOperationException
            reckon 8 3 3 2 = throws.UnsupportedOperationException
            reckon 8 4 4 2 = throws.UnsupportedOperationException
            reckon 8 5 5 2 = throws.UnsupportedOperationException
            length 8 = 0
            reckon 8 6 7 2
            compare 8 2 = 0
            reckon 7 6 0 1
            reckon 6 6 0 0
            reckon 8 6 7 2
            compare 8 3 = 0
            reckon 8 3 0 2
            compare 8 3 = 0
            reckon 8 4 1 2
            compare 8 3 = 0
            """,
            Sentences.EDGES + """
            shift 6 0 8192 = throws.UnsupportedOperationException
            shift 6 2 1 = throws.UnsupportedOperationException
            shift 6 3 1 = throws.UnsupportedOperationException
            length 6 = 0
            shift 6 0 8191
            compare 6 2 = 0
            shift 6 3 0
            compare 6 3 = 0
            reckon 7 2 0 1
            shift 6 7 1
            reckon 6 6 0 0
            compare 6 3 = 0
            """,
            Sentences.EDGES + """
            set 6 2
            set 7 -2
            shift 8 0 64
            shift 9 0 4096
            power 10 6 8192 = throws.UnsupportedOperationException
            power 10 7 8192 = throws.UnsupportedOperationException
            power 10 8 128 = throws.UnsupportedOperationException
            power 10 9 2 = throws.UnsupportedOperationException
            power 10 3 2 = throws.UnsupportedOperationException
            power 10 4 2 = throws.UnsupportedOperationException
            length 10 = 0
            power 10 6 8191
            compare 10 2 = 0
            power 10 3 1
            compare 10 3 = 0
            power 10 8 127
            length 10 = 8129
            power 10 7 8190
            length 10 = 8191
            """,
            readAround("", 3));
        Sentences.hold(TERMS, "or -2^8192 or less",
            Sentences.EDGES + """
            length 4 = 8192
            ones 4 = 8191
            reckon 6 5 5 0 = throws.UnsupportedOperationException
            reckon 6 4 1 0 = throws.UnsupportedOperationException
            reckon 6 4 4 0 = throws.UnsupportedOperationException
            reckon 6 5 2 1 = throws.UnsupportedOperationException
            reckon 6 4 0 1 = throws.UnsupportedOperationException
            reckon 6 4 3 1 = throws.UnsupportedOperationException
            length 6 = 0
            reckon 6 5 0 0
            reckon 7 6 5 0
            compare 7 4 = 0
            reckon 7 6 2 1
            compare 7 4 = 0
            reckon 7 4 0 0
            reckon 7 7 0 1
            compare 7 4 = 0
            """,
            Sentences.EDGES + """
            shift 6 0 4096
            shift 7 1 4096
            reckon 8 6 7 2 = throws.UnsupportedOperationException
            reckon 8 3 4 2 = throws.UnsupportedOperationException
            reckon 8 2 5 2 = throws.UnsupportedOperationException
            length 8 = 0
            shift 7 1 4095
            reckon 8 6 7 2
            compare 8 5 = 0
            shift 7 1 4096
            reckon 7 7 0 0
            reckon 6 6 0 0
            reckon 8 6 7 2
            compare 8 4 = 0
            reckon 8 3 1 2
            compare 8 4 = 0
            """,
            Sentences.EDGES + """
            combine 6 3 1 2 = throws.UnsupportedOperationException
            combine 6 1 3 2 = throws.UnsupportedOperationException
            set 7 -2
            combine 6 4 7 0 = throws.UnsupportedOperationException
            combine 6 7 4 0 = throws.UnsupportedOperationException
            combine 6 4 0 2 = throws.UnsupportedOperationException
            length 6 = 0
            reckon 7 3 0 1
            combine 6 7 1 2
            compare 6 4 = 0
            combine 6 4 4 0
            compare 6 4 = 0
            combine 6 4 4 1
            compare 6 4 = 0
            """,
            Sentences.EDGES + """
            shift 6 1 8192 = throws.UnsupportedOperationException
            shift 6 4 1 = throws.UnsupportedOperationException
            shift 6 5 1 = throws.UnsupportedOperationException
            length 6 = 0
            shift 6 4 0
            compare 6 4 = 0
            reckon 7 5 0 0
            shift 6 7 1
            reckon 6 6 1 0
            compare 6 4 = 0
            """,
            Sentences.EDGES + """
            set 6 -2
            set 7 -3
            shift 8 1 2731
            power 9 8 3 = throws.UnsupportedOperationException
            power 9 7 5169 = throws.UnsupportedOperationException
            power 9 4 3 = throws.UnsupportedOperationException
            length 9 = 0
            power 9 6 8191
            compare 9 5 = 0
            power 9 4 1
            compare 9 4 = 0
            power 9 7 5167
            length 9 = 8190
            compare 9 15 = -1
            """,
            readAround("-", 4));
    }

    /**
     * Reads the number in register edge, which is just not too large, and the next one, which is, in each base in
     * which 3000 characters are enough for them. All but the last digit comes from a print.
     */
    private static String readAround(String hyphen, int edge) {
        StringBuilder run = new StringBuilder(Sentences.EDGES);
        BigInteger bound = BigInteger.ONE.shiftLeft(8192);
        for (int base = 7; base <= 36; base++) {
            int digit = bound.mod(BigInteger.valueOf(base)).intValue();
            if (digit > 0) {
                run.append("set 6 %d; divide 7 %d 6 2; ".formatted(base, edge))
                    .append(printAndFeed(7, base, digit - 1));
                run.append("read 8 %d = -1; compare 8 %d = 0; ".formatted(base, edge));
                run.append(printAndFeed(7, base, digit));
            } else {
                run.append("print %d %d; turn; read 8 %d = -1; compare 8 %d = 0; ".formatted(edge, base, base, edge));
                int places = 8192 - Integer.numberOfTrailingZeros(base);
                run.append("set 6 %s1; shift 6 6 %d; ".formatted(hyphen, places)).append(printAndFeed(6, base, 0));
            }
            run.append("set 8 9; read 8 %d = 3001; low 8 = 9; ".formatted(base));
        }
        return run.toString();
    }

    private static String printAndFeed(int r, int base, int digit) {
        return "print %d %d; turn; feed %d = true; ".formatted(r, base, (int) Character.forDigit(digit, base));
    }

    private static void fromWhatAllHadBefore() {
        String[] rows = {
            "move # 0 = 17", "reckon # 0 1 0 = 22", "reckon # 0 1 1 = 12", "reckon # 1 0 1 = -12",
            "reckon # 0 1 2 = 85", "divide # 0 1 0 = 3", "divide # 0 1 1 = 2", "divide # 0 1 2 = 3",
            "divide # 0 1 3 = 2", "divide # 1 0 1 = 5", "divide # 3 1 0 = -4", "divide # 3 1 1 = 3",
            "divide # 3 1 2 = -3", "divide # 3 1 3 = -2", "combine # 0 1 0 = 1", "combine # 0 1 1 = 21",
            "combine # 0 1 2 = 20", "combine # 3 1 0 = 5", "combine # 3 1 1 = -17", "combine # 3 1 2 = -22",
            "shift # 0 3 = 136", "shift # 3 -2 = -5", "shift # 0 0 = 17", "power # 1 3 = 125", "power # 3 3 = -4913",
            "power # 0 0 = 1", "root # 0 = 4", "common # 0 1 = 1", "common # 0 3 = 17", "powerRest # 0 1 2 = 5",
            "powerRest # 3 1 2 = 2", "powerRest # 2 2 0 = 12", "reckon # 0 0 0 = 34", "reckon # 0 0 1 = 0",
            "reckon # 0 0 2 = 289", "divide # 3 3 0 = 1", "divide # 3 3 1 = 0", "divide # 3 3 2 = 1",
            "divide # 3 3 3 = 0", "combine # 3 3 0 = -17", "combine # 3 3 1 = -17", "combine # 3 3 2 = 0",
            "common # 3 3 = 17", "powerRest # 1 1 1 = 0", "powerRest # 1 0 1 = 0",
        };
        int[] before = {17, 5, 7, -17};
        List<String> runs = new ArrayList<>();
        for (String row : rows) {
            String[] halves = row.split(" = ");
            StringBuilder run = new StringBuilder();
            for (int r = 0; r < before.length; r++) {
                for (int other = 0; other < before.length; other++) {
                    run.append("set %d %d; ".formatted(other, before[other]));
                }
                run.append(halves[0].replace("#", String.valueOf(r))).append("; ");
                for (int other = 0; other < before.length; other++) {
                    run.append("low %d = %s; ".formatted(other, other == r ? halves[1] : before[other]));
                }
            }
            runs.add(run.toString());
        }
        runs.add("""
            set 0 10
            power 1 0 600
            power 2 0 300
            power 0 0 300
            compare 0 2 = 0
            reckon 0 0 0 2
            compare 0 1 = 0
            divide 0 0 2 0
            compare 0 2 = 0
            reckon 0 0 0 0
            reckon 0 0 2 1
            compare 0 2 = 0
            root 1 1
            compare 1 2 = 0
            divide 1 0 1 0
            low 1 = 1
            """);
        Sentences.hold(TERMS, "What a register becomes is reckoned from what all registers had before.",
            runs.toArray(new String[0]));
    }

    private static void divided() {
        // a, b, divided down, the rest down, divided short, the rest short.
        String[] rows = {
            "7 2 3 1 3 1", "7 -2 -4 -1 -3 1", "-7 2 -4 1 -3 -1", "-7 -2 3 -1 3 -1", "6 2 3 0 3 0", "6 -2 -3 0 -3 0",
            "-6 2 -3 0 -3 0", "-6 -2 3 0 3 0", "1 5 0 1 0 1", "1 -5 -1 -4 0 1", "-1 5 -1 4 0 -1", "-1 -5 0 -1 0 -1",
            "4 5 0 4 0 4", "4 -5 -1 -1 0 4", "-4 5 -1 1 0 -4", "-4 -5 0 -4 0 -4", "0 5 0 0 0 0", "0 -5 0 0 0 0",
            "5 5 1 0 1 0", "5 -5 -1 0 -1 0", "-5 5 -1 0 -1 0", "-5 -5 1 0 1 0",
            "-9223372036854775808 10 -922337203685477581 2 -922337203685477580 -8",
            "-9223372036854775807 2 -4611686018427387904 1 -4611686018427387903 -1",
            "9223372036854775807 -4294967296 -2147483648 -1 -2147483647 4294967295",
        };
        Sentences.hold(TERMS, "DIVIDED DOWN, a by b is the greatest whole number that is not above the exact quotient",
            divideRows(rows, 0), Sentences.EDGES + """
            divide 6 4 2 0
            low 6 = -2
            divide 6 3 5 0
            low 6 = -2
            divide 6 3 2 0
            low 6 = 1
            divide 6 4 5 0
            low 6 = 1
            divide 6 1 3 0
            low 6 = -1
            divide 6 0 4 0
            low 6 = -1
            divide 6 0 3 0
            low 6 = 0
            divide 6 4 1 0
            compare 6 3 = 0
            divide 6 3 1 0
            compare 6 4 = 0
            divide 6 4 0 0
            compare 6 4 = 0
            divide 6 4 3 0
            low 6 = -1
            shift 6 4 -8191
            low 6 = -2
            shift 6 4 -8192
            low 6 = -1
            shift 6 5 -8191
            low 6 = -1
            """);
        Sentences.hold(TERMS, "and the REST DOWN is a less b times that.",
            divideRows(rows, 1), Sentences.EDGES + """
            divide 6 4 2 1
            low 6 = 1
            length 6 = 1
            divide 6 3 5 1
            low 6 = -1
            length 6 = 0
            divide 6 1 3 1
            reckon 6 6 0 0
            compare 6 3 = 0
            divide 6 0 4 1
            reckon 6 6 1 0
            compare 6 4 = 0
            divide 6 4 3 1
            length 6 = 0
            divide 6 4 1 1
            length 6 = 0
            set 6 -17
            set 7 7
            powerRest 8 6 0 7
            low 8 = 4
            """);
        Sentences.hold(TERMS, "DIVIDED SHORT, it is the whole number next to the exact quotient towards 0",
            divideRows(rows, 2), Sentences.EDGES + """
            divide 6 4 2 2
            low 6 = -1
            divide 6 3 5 2
            low 6 = -1
            divide 6 3 2 2
            low 6 = 1
            divide 6 4 5 2
            low 6 = 1
            divide 6 1 3 2
            low 6 = 0
            divide 6 0 4 2
            low 6 = 0
            divide 6 4 1 2
            compare 6 3 = 0
            divide 6 4 3 2
            low 6 = -1
            """);
        Sentences.hold(TERMS, "and the REST SHORT is a less b times that.",
            divideRows(rows, 3), Sentences.EDGES + """
            divide 6 4 2 3
            reckon 6 6 1 1
            reckon 7 5 0 0
            reckon 7 7 0 0
            compare 6 7 = 0
            divide 6 1 3 3
            low 6 = -1
            divide 6 0 4 3
            low 6 = 1
            divide 6 4 3 3
            length 6 = 0
            """);
    }

    private static String divideRows(String[] rows, int by) {
        return Runs.rows("set 0 A; set 1 B; divide 2 0 1 " + by + "; printed 2 10 = " + (char) ('C' + by) + "; ", rows);
    }

    private static void bits() {
        Sentences.hold(TERMS, "BITS of a number are numbered from 0 on without end", Sentences.EDGES + """
            bit 0 0 = true
            bit 0 1 = false
            bit 0 2147483647 = false
            bit 1 0 = true
            bit 1 9000 = true
            bit 1 2147483647 = true
            bit 3 8191 = true
            bit 3 8192 = false
            bit 3 8400 = false
            bit 3 2147483647 = false
            bit 4 8191 = false
            bit 4 8192 = true
            bit 4 8400 = true
            bit 4 2147483647 = true
            bit 15 0 = false
            bit 15 2147483647 = false
            combine 6 2 1 0
            compare 6 2 = 0
            combine 6 3 1 1
            low 6 = -1
            length 6 = 0
            combine 6 5 1 2
            bit 6 8190 = true
            bit 6 8191 = false
            """);
        Sentences.hold(TERMS, "those of a number of 0 or more are its digits to the base 2, the last one being bit 0",
            "set 0 89; printed 0 2 = 1011001; " + bitsFrom("1011001", 89), bitsFrom("0", 0), bitsFrom("1", 1),
            bitsFrom("10", 2),
            bitsFrom("1" + "0".repeat(30), 1L << 30), bitsFrom("1" + "0".repeat(31), 1L << 31),
            bitsFrom("1".repeat(31), (1L << 31) - 1), bitsFrom("1" + "0".repeat(60) + "1", (1L << 61) + 1),
            bitsFrom("1" + "0".repeat(62), 1L << 62), bitsFrom("1".repeat(63), Long.MAX_VALUE));
        Sentences.hold(TERMS, "those of -1 less n are those of n, each changed",
            bitsFrom("0100110", -90), bitsFrom("1", -1), bitsFrom("0", -2), bitsFrom("01", -3), bitsFrom("00", -4),
            bitsFrom("0" + "1".repeat(30), -1 - (1L << 30)), bitsFrom("0" + "1".repeat(31), -1 - (1L << 31)),
            bitsFrom("0".repeat(31), -(1L << 31)), bitsFrom("0" + "1".repeat(62), -1 - (1L << 62)),
            bitsFrom("0".repeat(63), Long.MIN_VALUE),
            Sentences.EDGES + """
            bit 4 0 = true
            bit 4 1 = false
            bit 5 8190 = false
            bit 5 8191 = true
            combine 6 5 1 2
            reckon 7 1 5 1
            compare 6 7 = 0
            """);
        Sentences.hold(TERMS, "A number whose bits are 1 from some place on is below 0.", """
            set 0 12
            set 1 -11
            combine 2 0 1 1
            compare 2 15 = -1
            low 2 = -3
            combine 2 0 1 2
            compare 2 15 = -1
            low 2 = -7
            combine 2 0 1 0
            compare 2 15 = 1
            low 2 = 4
            set 0 -12
            combine 2 0 1 0
            compare 2 15 = -1
            low 2 = -12
            combine 2 0 1 1
            compare 2 15 = -1
            low 2 = -11
            combine 2 0 1 2
            compare 2 15 = 1
            low 2 = 1
            combine 2 1 1 2
            compare 2 15 = 0
            set 3 -1
            combine 2 15 3 2
            compare 2 15 = -1
            compare 2 3 = 0
            combine 2 15 3 1
            compare 2 3 = 0
            combine 2 15 3 0
            compare 2 15 = 0
            """);
    }

    /** Looks at the lowest bits of a number, told from the last one back, and at all behind them. */
    private static String bitsFrom(String digits, long number) {
        StringBuilder run = new StringBuilder("set 0 " + number + "; ");
        for (int i = 0; i < digits.length(); i++) {
            boolean due = digits.charAt(digits.length() - 1 - i) == '1';
            run.append("bit 0 %d = %b; ".formatted(i, due));
        }
        for (int i = digits.length(); i < digits.length() + 100; i++) {
            run.append("bit 0 %d = %b; ".formatted(i, number < 0));
        }
        return run.toString();
    }

    private static void digits() {
        String all = "0123456789ABCDEFGHIJKLMNOPQRSTUVWXYZ";
        String small = "abcdefghijklmnopqrstuvwxyz";
        StringBuilder print = new StringBuilder();
        for (int digit = 0; digit < 36; digit++) {
            print.append("set 0 %d; printed 0 36 = %c; ".formatted(digit, all.charAt(digit)));
        }
        List<String> runs = new ArrayList<>(List.of(readEach(all, 0), print.toString(), neighbours(47, 58, 64, 91)));
        for (int base = 2; base <= 36; base++) {
            runs.add(lastDigitOf(base, all.charAt(base - 1), (all + '[').charAt(base)));
        }
        Sentences.hold(TERMS, "DIGITS of bases 2 to 36 are 0 .. 9 (48 .. 57), then A .. Z (65 .. 90), for 0 .. 35",
            runs.toArray(new String[0]));
        List<String> smallRuns = new ArrayList<>(List.of(readEach(small, 10), neighbours(96, 123),
            "feedAll zZaAyY; read 0 36 = -1; printed 0 36 = ZZAAYY"));
        for (int base = 11; base <= 36; base++) {
            smallRuns.add(lastDigitOf(base, small.charAt(base - 11), (small + '{').charAt(base - 10)));
        }
        Sentences.hold(TERMS, "a .. z (97 .. 122) are read as A .. Z.", smallRuns.toArray(new String[0]));
    }

    private static String readEach(String digits, int first) {
        StringBuilder run = new StringBuilder("set 0 99; ");
        for (int i = 0; i < digits.length(); i++) {
            run.append("feed %d = true; read 0 36 = -1; low 0 = %d; ".formatted((int) digits.charAt(i), first + i));
        }
        return run.toString();
    }

    private static String neighbours(int... characters) {
        StringBuilder run = new StringBuilder("set 0 99; ");
        for (int c : characters) {
            run.append("feed %d = true; read 0 36 = 0; low 0 = 99; ".formatted(c));
        }
        return run.toString();
    }

    /** The last digit of a base is one, the character behind it is none. */
    private static String lastDigitOf(int base, char last, char next) {
        String lines = """
            feedAll LAST
            read 0 BASE = -1
            low 0 = LESS
            printed 0 BASE = PRINTED
            feedAll 1LAST
            read 0 BASE = -1
            low 0 = MORE
            feedAll NEXT
            read 0 BASE = 0
            feedAll 1NEXT
            read 0 BASE = 1
            low 0 = MORE
            """;
        return lines.replace("LESS", String.valueOf(base - 1)).replace("MORE", String.valueOf(2 * base - 1))
            .replace("PRINTED", String.valueOf(Character.toUpperCase(last))).replace("BASE", String.valueOf(base))
            .replace("LAST", String.valueOf(last)).replace("NEXT", String.valueOf(next));
    }

    private static void printedForm() {
        Sentences.hold(TERMS, "Of the PRINTED form the first character is a hyphen (45) if the number is below 0", """
            set 0 -1
            printed 0 2 = -1
            printed 0 36 = -1
            set 0 0
            printed 0 10 = 0
            set 0 1
            printed 0 10 = 1
            set 0 -9223372036854775808
            printed 0 10 = -9223372036854775808
            feedAll -0
            read 0 10 = -1
            printed 0 10 = 0
            set 0 -5
            reckon 0 0 0 1
            printed 0 10 = 0
            set 0 -5
            divide 0 0 0 1
            printed 0 10 = 0
            set 0 -5
            reckon 0 0 15 2
            printed 0 10 = 0
            """, Sentences.EDGES + """
            print 4 10 = 2468
            out 0 = 45
            out 1 = 49
            print 3 10 = 2467
            out 0 = 49
            """);
        List<String> runs = new ArrayList<>();
        for (int base = 2; base <= 36; base++) {
            runs.add(noZeroInFront(base));
        }
        Sentences.hold(TERMS, "then come the digits, the first one not being 0 but for 0 itself.",
            runs.toArray(new String[0]));
    }

    /** Powers of a base are 1 with only 0 behind it, and one less has one digit less. */
    private static String noZeroInFront(int base) {
        StringBuilder run = new StringBuilder("set 0 %d; set 1 1; printed 15 %d = 0; ".formatted(base, base));
        int last = Character.toUpperCase(Character.forDigit(base - 1, 36));
        // 31 bits and their multiples are where the program may take a new row of digits.
        for (int bits : new int[] {6, 31, 62, 93}) {
            int places = (int) Math.floor(bits / (Math.log(base) / Math.log(2)));
            String power = "1" + "0".repeat(places);
            run.append("power 2 0 %d; printed 2 %d = %s; ".formatted(places, base, power));
            run.append("reckon 2 2 1 1; print 2 %d = %d; ".formatted(base, places));
            run.append("out 0 = %d; out %d = %d; ".formatted(last, places - 1, last));
        }
        return run.toString();
    }

    private static void whichExceptionFirst() {
        String[] refused = {
            // The sum, the product, and the number with these bits would be too large, too.
            "reckon 6 3 3 3", "reckon 6 3 3 -1", "reckon 6 3 3 2147483647", "reckon 16 3 3 0", "reckon -1 3 3 2",
            "reckon 16 3 4 1", "combine 6 3 1 3", "combine 6 3 1 -1", "combine 16 3 1 2", "combine -1 3 1 2",
            // b is 0, too.
            "divide 6 0 15 4", "divide 6 0 15 -1", "divide 16 0 15 0", "divide 6 16 15 0", "divide -1 0 15 3",
            "divide 6 -1 15 2",
            // What comes out would be too large, too.
            "shift 6 0 9001", "shift 6 3 9001", "shift 16 3 9000", "shift 6 1 2147483647", "shift -1 3 1",
            "power 6 3 8193", "power 16 3 8192", "power 6 4 2147483647", "power -1 3 2",
            // a is below 0, too.
            "root 16 1", "root -1 1",
            // b is below 0, or m is not above 0, too.
            "powerRest 16 0 1 0", "powerRest 6 16 1 0", "powerRest 6 0 1 16", "powerRest 6 0 16 15",
            "powerRest -1 0 0 15", "powerRest 6 -1 0 1", "powerRest 6 0 1 -1", "powerRest 6 0 -1 1",
            "powerRest 6 0 4 0", "powerRest 6 0 0 4", "powerRest 6 0 3 15", "powerRest 6 0 3 1", "powerRest 6 0 1 3",
            "powerRest 6 0 4 4", "powerRest 6 0 5 15",
        };
        StringBuilder run = new StringBuilder(Sentences.EDGES);
        for (String call : refused) {
            run.append(call).append(ILLEGAL);
        }
        String text = """
            feedAll 1.
            read 0 37 = throws.IllegalArgumentException
            read 16 10 = throws.IllegalArgumentException
            read 16 37 = throws.IllegalArgumentException
            print 16 37 = throws.IllegalArgumentException
            bit 16 -1 = throws.IllegalArgumentException
            read 0 10 = 1
            """;
        Sentences.hold(TERMS, "Calls that name exceptions throw them as their comments say", someState()
            + String.join(ILLEGAL, ILLEGAL_CALLS) + ILLEGAL + String.join(LARGE, LARGE_CALLS) + LARGE
            + String.join(ARITHMETIC, ARITHMETIC_CALLS) + ARITHMETIC);
        Sentences.hold(TERMS, "the one named first when several would do.", run.toString(), text);
    }

    private static void changesNothing() {
        List<String> runs = new ArrayList<>();
        addRefused(runs, ILLEGAL_CALLS, ILLEGAL);
        addRefused(runs, LARGE_CALLS, LARGE);
        addRefused(runs, ARITHMETIC_CALLS, ARITHMETIC);
        runs.add("""
            set 0 1
            shift 1 0 2999
            print 1 2 = 3000
            turn = 3000
            set 2 -77
            print 2 10 = 3
            feed 49 = false
            feed 46 = false
            feed -1 = false
            out 0 = 45
            out 3 = -1
            low 0 = 1
            low 2 = -77
            read 3 2 = -1
            compare 3 1 = 0
            """);
        Sentences.hold(TERMS, "A call that throws, or is refused, changes nothing", runs.toArray(new String[0]));
        Sentences.hold(TERMS, "(but the text, by read()).", refusedRead("feedAll 12x; read 0 10 = 2; "),
            refusedRead("feedAll -; read 0 10 = 1; "), refusedRead("read 0 10 = 0; "),
            refusedRead("print 14 16; turn; feedAll 0; print 10 10; read 0 16 = 3001; "));
    }

    private static void addRefused(List<String> runs, String[] calls, String due) {
        for (String call : calls) {
            runs.add(someState() + "feedAll 123; " + call + due + sameState() + "out 0 = 45; out 1 = 49; out 2 = -1; "
                + "read 9 10 = -1; low 9 = 123; ");
        }
    }

    private static String refusedRead(String lines) {
        return someState() + lines + "read 1 10 = 0; " + sameState() + "out 0 = 45; out 1 = 49; out 2 = -1; "
            + "read 1 10 = 0; ";
    }

    /** All registers with numbers of their own: 12 is 2^512, 13 is -2^8191, 14 is 2^8191, 15 is 2^8192 less 1. */
    private static String someState() {
        StringBuilder run = new StringBuilder();
        for (int r = 0; r < 10; r++) {
            run.append("set %d %d; ".formatted(r, 1000 + r));
        }
        return run + """
            set 10 -1
            set 12 1
            shift 13 10 8191
            shift 14 12 8191
            shift 12 12 512
            reckon 15 14 10 0
            reckon 15 15 14 0
            print 10 10 = 2
            """;
    }

    private static String sameState() {
        StringBuilder run = new StringBuilder();
        for (int r = 0; r < 10; r++) {
            run.append("low %d = %d; length %d = 10; ".formatted(r, 1000 + r, r));
        }
        return run + Runs.rows("low A = B; length A = C; ones A = D; ", "10 -1 0 0", "11 0 0 0", "12 0 513 1",
            "13 0 8191 8191", "14 0 8192 1", "15 -1 8192 8192");
    }

    private static void noSuchRegister() {
        List<String> runs = new ArrayList<>();
        for (String call : CALLS_OF_REGISTERS) {
            StringBuilder run = new StringBuilder("set 0 1; ");
            for (int place = call.indexOf('#'); place >= 0; place = call.indexOf('#', place + 1)) {
                for (String none : new String[] {"-1", "16", "-2147483648", "2147483647"}) {
                    String wrong = call.substring(0, place) + none + call.substring(place + 1);
                    run.append(wrong.replace("#", "0")).append(ILLEGAL);
                }
            }
            runs.add(run.toString());
        }
        Sentences.hold(TERMS, "Where a register is asked for, IllegalArgumentException: there is no such register.",
            runs.toArray(new String[0]));
    }
}
