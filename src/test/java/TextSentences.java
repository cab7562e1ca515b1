import java.util.ArrayList;
import java.util.List;

/** The sentences of promises 17 to 21: the text that is read, and what is printed. */
final class TextSentences {
    private TextSentences() {
    }

    static void hold() {
        feed();
        read();
        whereReadEnds();
        print();
        out();
        turn();
    }

    private static void feed() {
        Sentences.hold("Promise 17", "Puts a character behind the text", """
            feed 49 = true
            feed 50 = true
            feed 51 = true
            read 0 10 = -1
            low 0 = 123
            print 0 10 = 3
            turn = 3
            feed 52 = true
            read 0 10 = -1
            low 0 = 1234
            """);
        int[] others = {-2147483648, -1000, -48, -45, -1, 0, 9, 10, 13, 32, 43, 44, 46, 47, 58, 64, 91, 96, 123, 127,
            128, 173, 255, 256 + 45, 256 + 48,
            256 + 49, 0x660, 0x2010, 0x2212, 0xFF0D, 0xFF10, 0xFF21, 65536 + 45, 65536 + 48, 0x10030, 0x1D7CE,
            0x1000030, 2147483647};
        StringBuilder run = new StringBuilder("set 0 99; ");
        for (int c : others) {
            run.append("feed ").append(c).append(" = true; read 0 36 = 0; feed 49 = true; feed ").append(c);
            run.append(" = true; feed 49 = true; read 0 36 = 1; low 0 = 99; ");
        }
        Sentences.hold("Promise 17", "(any int; but for digits and the hyphen it makes no difference which).",
            run.toString());
        Sentences.hold("Promise 17", "Answers true; false when it has 3000.", """
            set 0 1
            shift 1 0 2998
            print 1 2 = 2999
            turn = 2999
            feed 49 = true
            feed 49 = false
            feed 46 = false
            feed 48 = false
            read 2 2 = -1
            reckon 3 1 1 0
            reckon 3 3 0 0
            compare 2 3 = 0
            feed 49 = true
            read 2 2 = -1
            low 2 = 1
            """, "set 0 1; shift 1 0 2899; print 1 2 = 2900; turn = 2900; " + "feed 48 = true; ".repeat(100)
            + "feed 48 = false; read 2 2 = -1; shift 3 0 2999; compare 2 3 = 0");
    }

    private static void read() {
        Sentences.hold("Promise 18", "Reads the text, which is empty then, as a printed form in some base",
            "set 0 5; feedAll 12; read 0 10 = -1; low 0 = 12; read 0 10 = 0; low 0 = 12; ",
            "feedAll 1x2; read 0 10 = 1; read 0 10 = 0; ", "feedAll -; read 0 10 = 1; read 0 10 = 0; ",
            Sentences.EDGES + "print 2 16 = 2048; turn = 2048; feed 48 = true; read 6 16 = 3001; read 6 16 = 0; "
                + "feed 49 = true; read 6 16 = -1; low 6 = 1; ",
            everyBase());
        List<String> zeros = new ArrayList<>();
        for (String form : new String[] {"00 0", "000 0", "01 1", "007 7", "-0 0", "-00 0", "-01 -1", "-007 -7",
            "0 0"}) {
            String[] words = form.split(" ");
            for (int base : new int[] {8, 10, 36}) {
                zeros.add("set 0 99; feedAll " + words[0] + "; read 0 " + base + " = -1; printed 0 10 = " + words[1]
                    + "; set 1 " + words[1]
                    + "; compare 0 1 = 0; length 0; ");
            }
        }
        zeros.add("feedAll -0; read 0 2 = -1; compare 0 15 = 0; bit 0 0 = false; bit 0 9000 = false; ");
        zeros.add("feed 45 = true; " + "feed 48 = true; ".repeat(400) + "read 0 36 = -1; printed 0 10 = 0; ");
        zeros.add("feed 48 = true; ".repeat(400) + "feedAll Zz; read 0 36 = -1; printed 0 36 = ZZ; ");
        zeros.add("feed 45 = true; " + "feed 48 = true; ".repeat(400) + "feedAll 10; read 0 2 = -1; low 0 = -2; ");
        Sentences.hold("Promise 18", "(digits of 0 may stand in front, also behind a hyphen alone)",
            zeros.toArray(new String[0]));
        Sentences.hold("Promise 18", "register r becomes that.",
            Runs.rows("feedAll A; read 3 B = -1; printed 3 10 = C; ", "1 10 1", "-1 10 -1",
            "255 10 255", "11111111 2 255", "ff 16 255", "-FF 16 -255", "9223372036854775807 10 9223372036854775807",
            "-9223372036854775809 10 -9223372036854775809", "zz 36 1295", "2147483648 10 2147483648",
            "100000000 8 16777216"),
            Sentences.EDGES + """
            print 3 36 = 1585
            turn = 1585
            read 6 36 = -1
            compare 6 3 = 0
            print 4 36 = 1586
            turn = 1586
            read 3 36 = -1
            compare 3 4 = 0
            """);
    }

    /** A number of some places read and printed in each base. */
    private static String everyBase() {
        StringBuilder run = new StringBuilder("set 0 -81985529216486895; ");
        for (int base = 2; base <= 36; base++) {
            String form = Long.toString(-81985529216486895L, base);
            run.append("print 0 ").append(base).append(" = ").append(form.length()).append("; turn = ")
                .append(form.length());
            run.append("; set 1 7; read 1 ").append(base).append(" = -1; low 1 = -81985529216486895; ");
        }
        return run.toString();
    }

    private static void whereReadEnds() {
        Sentences.hold("Promise 18", "Answers NONE",
            "feedAll 0; read 0 2 = -1; feedAll -1; read 0 2 = -1; feedAll zZ; read 0 36 = -1; ");
        List<String> flaws = new ArrayList<>();
        for (String row : new String[] {
            "x 10 0", "--1 10 1", "-- 10 1", "1- 10 1", "5-5 10 1", "0-5 10 1", "-5- 10 2", "-0-5 10 2", "00-0 10 2",
            "12x4 10 2", "12xy 10 2", "2 2 0", "12 2 1", "-12 2 2", "00002 2 4", "7 7 0", "a 10 0", "A 10 0", "-a 10 1",
            "g 16 0", "1G 16 1", "z 35 0", "1. 10 1", "+1 10 0", "/ 36 0", ": 36 0", "@ 36 0", "[ 36 0", "` 36 0",
            "{ 36 0", "-{ 36 1", "1_000 10 1",
        }) {
            String[] words = row.split(" ");
            flaws.add("set 0 99; feedAll " + words[0] + "; read 0 " + words[1] + " = " + words[2] + "; low 0 = 99; ");
        }
        flaws.add("set 0 1; shift 1 0 2998; print 1 2 = 2999; turn = 2999; feed 50 = true; read 0 2 = 2999; "
            + "low 0 = 1; ");
        flaws.add(Sentences.EDGES + "print 3 16 = 2048; turn = 2048; feedAll 0G; read 0 16 = 2049; low 0 = 1; ");
        Sentences.hold("Promise 18", "otherwise the place (from 0) of the first character from which on it can be none",
            flaws.toArray(new String[0]));
        Sentences.hold("Promise 18", "or how many there are when it ends too early",
            "set 0 99; read 0 10 = 0; low 0 = 99; ",
            "set 0 99; feed 45 = true; read 0 10 = 1; low 0 = 99; feed 45 = true; read 0 36 = 1; low 0 = 99; ");
        Sentences.hold("Promise 18", "and the register stays", Sentences.EDGES + """
            read 3 10 = 0
            length 3 = 8192
            feedAll -
            read 3 10 = 1
            ones 3 = 8192
            feedAll 12345x
            read 3 10 = 5
            ones 3 = 8192
            low 3 = -1
            feedAll -12345-
            read 4 10 = 6
            ones 4 = 8191
            print 2 16 = 2048
            turn = 2048
            feed 48 = true
            read 4 16 = 3001
            ones 4 = 8191
            length 4 = 8192
            """);
        Sentences.hold("Promise 18", "3001 when it is one, but too large.", Sentences.EDGES + """
            print 2 16 = 2048
            turn = 2048
            feed 48 = true
            read 6 16 = 3001
            print 5 16 = 2049
            turn = 2049
            feed 48 = true
            read 6 16 = 3001
            print 3 2 = 8192
            turn = 3000
            read 6 36 = 3001
            print 3 2 = 8192
            turn = 3000
            read 6 6 = -1
            length 6 = 7753
            print 3 2 = 8192
            turn = 3000
            read 6 7 = 3001
            print 4 2 = 8193
            turn = 3000
            read 6 36 = 3001
            print 3 16 = 2048
            turn = 2048
            read 6 17 = 3001
            print 4 16 = 2049
            turn = 2049
            read 6 17 = 3001
            length 6 = 7753
            print 3 16 = 2048
            turn = 2048
            read 6 16 = -1
            compare 6 3 = 0
            print 4 16 = 2049
            turn = 2049
            read 6 16 = -1
            compare 6 4 = 0
            """);
        Sentences.hold("Promise 18", "IllegalArgumentException: base is not 2 .. 36, too",
            noSuchBase("read 3 A = throws.IllegalArgumentException; ")
            + "low 3 = 9; feedAll 10; read 3 2 = -1; low 3 = 2; feedAll 10; read 3 36 = -1; low 3 = 36; ");
        Sentences.hold("Promise 18", "(and the text stays).", "feedAll 11; "
            + noSuchBase("read 3 A = throws.IllegalArgumentException; ")
            + "read 3 2 = -1; low 3 = 3; ", "feedAll 7-; read 3 37 = throws.IllegalArgumentException; read 3 10 = 1; ",
            "feedAll -8; read 16 10 = throws.IllegalArgumentException; read 3 10 = -1; low 3 = -8; ");
    }

    private static String noSuchBase(String lines) {
        return "set 3 9; " + Runs.rows(lines, "1", "0", "-1", "-2", "-10", "37", "38", "2147483647",
            "-2147483648");
    }

    private static void print() {
        Sentences.hold("Promise 19", "Prints a register in some base",
            Runs.rows("set 0 A; printed 0 B = C; ", "0 2 0", "1 2 1", "-1 2 -1", "10 2 1010", "35 36 Z",
            "36 36 10", "-1295 36 -ZZ", "9 10 9", "10 10 10", "1000000000 10 1000000000", "-1000000001 10 -1000000001",
            "255 16 FF", "9223372036854775807 36 1Y2P0IJ32E8E7",
            "-9223372036854775808 16 -8000000000000000"), everyBasePrinted());
        Sentences.hold("Promise 19", "in place of what was printed.", """
            set 0 12345
            set 1 -7
            print 0 10 = 5
            printed 1 10 = -7
            out 3 = -1
            out 4 = -1
            printed 15 10 = 0
            out 1 = -1
            printed 0 10 = 12345
            printed 0 10 = 12345
            print 1 10 = 2
            turn = 2
            read 2 10 = -1
            low 2 = -7
            """);
        Sentences.hold("Promise 19", "Answers how many characters.", Sentences.EDGES + """
            print 15 2 = 1
            print 0 2 = 1
            print 1 2 = 2
            print 2 2 = 8192
            print 3 2 = 8192
            print 4 2 = 8193
            print 5 2 = 8193
            out 8192 = 48
            out 8193 = -1
            print 3 3 = 5169
            print 4 3 = 5170
            print 3 10 = 2467
            print 4 10 = 2468
            print 3 16 = 2048
            print 4 36 = 1586
            out 1585 = 51
            out 1586 = -1
            """);
        Sentences.hold("Promise 19", "IllegalArgumentException: base is not 2 .. 36, too.", "set 3 9; print 3 10 = 1; "
            + noSuchBase("print 3 A = throws.IllegalArgumentException; out 0 = 57; out 1 = -1; ")
            + "printed 3 2 = 1001; printed 3 36 = 9; ");
    }

    private static String everyBasePrinted() {
        StringBuilder run = new StringBuilder("set 0 -81985529216486895; ");
        for (int base = 5; base <= 36; base++) {
            run.append("set 1 ").append(12345678L * base).append("; printed 1 ").append(base).append(" = ");
            run.append(Long.toString(12345678L * base, base).toUpperCase(java.util.Locale.ROOT)).append("; ");
        }
        return run.toString();
    }

    private static void out() {
        Sentences.hold("Promise 20", "Character i (from 0) of what was printed", Sentences.EDGES + """
            set 6 -109
            print 6 10 = 4
            out 0 = 45
            out 1 = 49
            out 2 = 48
            out 3 = 57
            out 0 = 45
            print 6 36 = 3
            out 1 = 51
            out 2 = 49
            print 5 2 = 8193
            out 0 = 45
            out 1 = 49
            out 2 = 48
            out 8192 = 48
            print 4 2 = 8193
            out 8192 = 49
            """);
        Sentences.hold("Promise 20", "NONE when there is none.",
            "out 0 = -1; out -1 = -1; out 1 = -1; out 2147483647 = -1; out -2147483648 = -1; ",
            Sentences.EDGES + """
            set 6 -109
            print 6 10 = 4
            out 4 = -1
            out 5 = -1
            out -1 = -1
            out -4 = -1
            out 2147483647 = -1
            out -2147483648 = -1
            print 4 2 = 8193
            out 8193 = -1
            out 8194 = -1
            out -1 = -1
            print 15 2 = 1
            out 1 = -1
            out 4 = -1
            out 8192 = -1
            """, "feedAll 12; out 0 = -1; read 0 10 = -1; out 0 = -1; ");
    }

    private static void turn() {
        Sentences.hold("Promise 21", "The first 3000 characters of what was printed become the text.", """
            set 0 1
            shift 1 0 2999
            print 1 2 = 3000
            turn = 3000
            feed 48 = false
            read 2 2 = -1
            compare 2 1 = 0
            shift 3 0 3000
            reckon 3 3 0 0
            print 3 2 = 3001
            turn = 3000
            feed 48 = false
            read 2 2 = -1
            compare 2 1 = 0
            out 3000 = 49
            out 3001 = -1
            set 4 -1
            reckon 5 4 1 2
            print 5 2 = 3001
            turn = 3000
            read 2 2 = -1
            shift 6 4 2998
            compare 2 6 = 0
            """, """
            feedAll 99
            set 0 -4
            print 0 10 = 2
            feedAll 99
            turn = 2
            read 1 10 = -1
            low 1 = -4
            read 1 10 = 0
            turn = 2
            feedAll 2
            turn = 2
            feedAll 1
            read 1 10 = -1
            low 1 = -41
            printed 0 10 = -4
            """, "feedAll 12; turn = 0; read 0 10 = 0; low 0 = 0; ");
        Sentences.hold("Promise 21", "Answers how many.", Sentences.EDGES + """
            turn = 0
            print 15 10 = 1
            turn = 1
            print 1 10 = 2
            turn = 2
            turn = 2
            feedAll 12
            turn = 2
            shift 6 0 2998
            print 6 2 = 2999
            turn = 2999
            shift 6 0 2999
            print 6 2 = 3000
            turn = 3000
            shift 6 0 3000
            print 6 2 = 3001
            turn = 3000
            print 4 2 = 8193
            turn = 3000
            print 1 10 = 2
            turn = 2
            """);
    }
}
