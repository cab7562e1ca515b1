/** The sentences of promises 1 to 11: the new object, and the calls that change a register. */
final class ReckoningSentences {
    private static final String BY_TOO = "IllegalArgumentException: by, too";
    private static final String LARGE = "UnsupportedOperationException: that is too large.";

    private ReckoningSentences() {
    }

    static void hold() {
        newObject();
        set();
        move();
        reckon();
        divide();
        combine();
        shift();
        power();
        root();
        common();
        powerRest();
    }

    private static void newObject() {
        StringBuilder run = new StringBuilder();
        for (int r = 0; r < 16; r++) {
            run.append("low ").append(r).append(" = 0; length ").append(r).append(" = 0; compare ").append(r)
                .append(" 15 = 0; ");
            run.append("bit ").append(r).append(" 8191 = false; ");
        }
        Sentences.hold("Promise 1", "All registers are 0", run.toString());
        Sentences.hold("Promise 1", "no text", "set 0 7; read 0 10 = 0; low 0 = 7; ",
            "feedAll 5; read 0 10 = -1; low 0 = 5; ");
        Sentences.hold("Promise 1", "nothing printed.", "out 0 = -1; out 1 = -1; turn = 0; read 0 10 = 0; ");
    }

    private static void set() {
        Sentences.hold("Promise 2", "Register r becomes v.", Runs.rows("set 3 77; set 3 A; printed 3 10 = B; ",
            "0 0", "1 1", "-1 -1", "2147483647 2147483647", "2147483648 2147483648", "-2147483648 -2147483648",
            "-2147483649 -2147483649", "4611686018427387903 4611686018427387903",
            "4611686018427387904 4611686018427387904", "-4611686018427387905 -4611686018427387905",
            "9223372036854775807 9223372036854775807", "-9223372036854775807 -9223372036854775807",
            "-9223372036854775808 -9223372036854775808"),
            Sentences.EDGES + "set 3 -5; printed 3 10 = -5; set 4 5; printed 4 10 = 5; set 2 0; compare 2 15 = 0; "
                + "length 2 = 0; ");
    }

    private static void move() {
        Sentences.hold("Promise 3", "Register r becomes what register a is.", Sentences.EDGES + """
            move 6 3
            compare 6 3 = 0
            move 6 4
            compare 6 4 = 0
            move 6 6
            compare 6 4 = 0
            move 6 1
            low 6 = -1
            length 6 = 0
            move 6 15
            compare 6 15 = 0
            length 6 = 0
            move 6 3
            set 3 1
            length 6 = 8192
            move 7 6
            set 6 2
            length 7 = 8192
            """);
    }

    private static void reckon() {
        Sentences.hold("Promise 4", "Register r becomes a + b (by = 0)",
            Runs.rows("set 0 A; set 1 B; reckon 2 0 1 0; printed 2 10 = C; ",
            "0 0 0", "7 -12 -5", "-7 12 5", "7 -7 0", "-7 7 0", "-7 -12 -19", "0 -3 -3", "-3 0 -3",
            "2147483647 1 2147483648", "-2147483648 -1 -2147483649", "4611686018427387903 1 4611686018427387904",
            "2147483648 -1 2147483647", "9223372036854775807 9223372036854775807 18446744073709551614",
            "-9223372036854775808 -9223372036854775808 -18446744073709551616"));
        Sentences.hold("Promise 4", "a - b (1)", Runs.rows("set 0 A; set 1 B; reckon 2 0 1 1; printed 2 10 = C; ",
            "0 0 0", "7 -12 19", "-7 12 -19", "7 7 0", "-7 -7 0", "-7 -12 5", "0 -3 3", "0 3 -3", "-3 0 -3",
            "2147483648 1 2147483647", "4611686018427387904 1 4611686018427387903", "-2147483648 1 -2147483649",
            "9223372036854775807 -9223372036854775808 18446744073709551615",
            "-9223372036854775808 9223372036854775807 -18446744073709551615"));
        Sentences.hold("Promise 4", "a * b (2)", Runs.rows("set 0 A; set 1 B; reckon 2 0 1 2; printed 2 10 = C; ",
            "0 0 0", "0 -7 0", "-7 0 0", "7 -12 -84", "-7 12 -84", "-7 -12 84", "1 -7 -7", "-1 -7 7",
            "2147483647 2147483647 4611686014132420609", "2147483648 -2147483648 -4611686018427387904",
            "9223372036854775807 9223372036854775807 85070591730234615847396907784232501249",
            "-9223372036854775808 9223372036854775807 -85070591730234615856620279821087277056",
            "-9223372036854775808 -9223372036854775808 85070591730234615865843651857942052864"));
        Sentences.hold("Promise 4", "of what registers a and b are.",
            "set 0 20; set 1 3; set 2 99; reckon 2 0 1 0; low 2 = 23; reckon 2 1 0 0; low 2 = 23; reckon 2 0 1 1; "
                + "low 2 = 17; "
            + "reckon 2 1 0 1; low 2 = -17; reckon 2 0 1 2; low 2 = 60; low 0 = 20; low 1 = 3; ");
        Sentences.hold("Promise 4", BY_TOO, byTwoIsTheLast("reckon"));
        Sentences.hold("Promise 4", LARGE, Sentences.EDGES + """
            reckon 6 3 0 0 = throws.UnsupportedOperationException
            reckon 6 4 0 1 = throws.UnsupportedOperationException
            reckon 6 3 3 2 = throws.UnsupportedOperationException
            reckon 6 3 4 2 = throws.UnsupportedOperationException
            length 6 = 0
            reckon 6 3 4 0
            length 6 = 0
            reckon 6 3 3 1
            length 6 = 0
            reckon 6 3 15 2
            length 6 = 0
            reckon 6 3 1 2
            compare 6 4 = 0
            """);
    }

    private static String byTwoIsTheLast(String call) {
        return "set 0 5; A 1 0 0 0; A 1 0 0 2; set 1 9; ".replace("A", call)
            + Runs.rows(call + " 1 0 0 A = throws.IllegalArgumentException; low 1 = 9; ", "-1", "3", "4", "-2147483648",
                "2147483647");
    }

    private static void divide() {
        String[] rows = {
            "17 5 3 2 3 2", "17 -5 -4 -3 -3 2", "-17 5 -4 3 -3 -2", "-17 -5 3 -2 3 -2", "15 5 3 0 3 0",
            "-15 5 -3 0 -3 0", "15 -5 -3 0 -3 0", "-15 -5 3 0 3 0", "0 5 0 0 0 0", "0 -5 0 0 0 0", "3 1 3 0 3 0",
            "3 -1 -3 0 -3 0", "1 2147483648 0 1 0 1", "-1 2147483648 -1 2147483647 0 -1",
            "9223372036854775807 2147483648 4294967295 2147483647 4294967295 2147483647",
        };
        String[] sentences = {"Register r becomes a divided down by b (by = 0)", "the rest down (1)",
            "a divided short (2)", "the rest short (3)."};
        for (int by = 0; by < 4; by++) {
            String answer = String.valueOf((char) ('C' + by));
            Sentences.hold("Promise 5", sentences[by],
                Runs.rows("set 0 A; set 1 B; divide 2 0 1 " + by + "; printed 2 10 = " + answer
                + "; low 0 = A; low 1 = B; ",
                rows));
        }
        Sentences.hold("Promise 5", BY_TOO, """
            set 0 5
            divide 1 0 0 -1 = throws.IllegalArgumentException
            divide 1 0 0 0
            low 1 = 1
            divide 1 0 0 3
            low 1 = 0
            set 1 9
            divide 1 0 0 4 = throws.IllegalArgumentException
            divide 1 0 0 -2147483648 = throws.IllegalArgumentException
            divide 1 0 0 2147483647 = throws.IllegalArgumentException
            low 1 = 9
            """);
        Sentences.hold("Promise 5", "ArithmeticException: b is 0.", Sentences.EDGES + "set 6 9; "
            + Runs.rows("divide 6 A 15 B = throws.ArithmeticException; low 6 = 9; ", "0 0", "0 1", "0 2", "0 3", "1 0",
            "1 1", "1 2", "1 3", "3 0", "4 1", "15 0", "15 1", "15 2", "15 3")
            + "reckon 7 0 0 1; divide 6 0 7 0 = throws.ArithmeticException; divide 6 0 1 0; low 6 = -1; ");
    }

    private static void combine() {
        String[] rows = {
            "12 10 8 14 6", "12 -10 4 -2 -6", "-12 10 0 -2 -2", "-12 -10 -12 -10 2", "0 0 0 0 0", "0 -1 0 -1 -1",
            "-1 -1 -1 -1 0", "-1 0 0 -1 -1", "5 5 5 5 0", "-5 -5 -5 -5 0", "5 -6 0 -1 -1", "1 -1 1 -1 -2",
            "2147483647 -2147483648 0 -1 -1", "2147483648 -2147483648 2147483648 -2147483648 -4294967296",
            "-2147483648 -2147483649 -4294967296 -1 4294967295", "9223372036854775807 -9223372036854775808 0 -1 -1",
            "4611686018427387904 -1 4611686018427387904 -1 -4611686018427387905",
        };
        String[] sentences = {"Register r becomes the number of which each bit is that of a and b (by = 0)",
            "of a or b (1)", "of just one of them (2)."};
        String[] large = {
            "combine 6 3 1 0; compare 6 3 = 0; combine 6 4 0 0; low 6 = 1; combine 6 2 5 0; compare 6 2 = 0",
            "combine 6 3 1 1; low 6 = -1; length 6 = 0; combine 6 3 4 1; low 6 = -1; combine 6 2 5 1; compare 6 5 = 0",
            "combine 6 2 1 2; length 6 = 8192; ones 6 = 1; bit 6 8191 = false; combine 6 3 2 2; length 6 = 8191",
        };
        for (int by = 0; by < 3; by++) {
            String answer = String.valueOf((char) ('C' + by));
            Sentences.hold("Promise 6", sentences[by],
                Runs.rows("set 0 A; set 1 B; combine 2 0 1 " + by + "; printed 2 10 = " + answer + "; ", rows),
                Runs.rows("set 0 A; set 1 B; combine 2 1 0 " + by + "; low 2 = " + answer + "; ", rows),
                Sentences.EDGES + large[by]);
        }
        Sentences.hold("Promise 6", BY_TOO, byTwoIsTheLast("combine"));
        Sentences.hold("Promise 6", LARGE, Sentences.EDGES + """
            set 6 7
            combine 6 3 1 2 = throws.UnsupportedOperationException
            combine 6 4 0 2 = throws.UnsupportedOperationException
            set 7 -2
            combine 6 4 7 0 = throws.UnsupportedOperationException
            low 6 = 7
            combine 6 4 7 1
            low 6 = -1
            combine 6 4 7 2
            length 6 = 8192
            ones 6 = 8192
            combine 6 2 1 2
            length 6 = 8192
            """);
    }

    private static void shift() {
        Sentences.hold("Promise 7", "Register r becomes a times 2^n",
            Runs.rows("set 0 A; shift 1 0 B; printed 1 10 = C; low 0 = A; ",
            "5 0 5", "-5 0 -5", "0 0 0", "5 1 10", "-5 1 -10", "-1 3 -8", "1 31 2147483648", "1 30 1073741824",
            "1 62 4611686018427387904", "3 61 6917529027641081856", "-1 63 -9223372036854775808",
            "1 64 18446744073709551616", "-1 93 -9903520314283042199192993792"),
            Sentences.EDGES + """
            shift 6 15 1
            length 6 = 0
            shift 6 15 8192
            length 6 = 0
            compare 6 15 = 0
            shift 6 15 9000
            length 6 = 0
            compare 6 15 = 0
            shift 6 0 8190
            shift 6 6 1
            compare 6 2 = 0
            shift 6 1 8190
            shift 6 6 1
            compare 6 5 = 0
            """);
        Sentences.hold("Promise 7", "or, for n below 0, a divided down by 2^-n.",
            Runs.rows("set 0 A; shift 1 0 B; printed 1 10 = C; low 0 = A; ",
            "5 -1 2", "-5 -1 -3", "4 -1 2", "-4 -1 -2", "5 -3 0", "-5 -3 -1", "-4 -2 -1", "-4 -3 -1", "0 -1 0",
            "1 -1 0", "-1 -1 -1", "2147483648 -31 1", "2147483648 -32 0", "-2147483648 -31 -1", "-2147483649 -31 -2",
            "-2147483648 -32 -1", "4611686018427387904 -62 1", "-4611686018427387905 -62 -2", "0 -9000 0", "1 -9000 0",
            "-1 -9000 -1", "-9223372036854775808 -63 -1", "9223372036854775807 -62 1"),
            Sentences.EDGES + """
            shift 6 3 -8191
            low 6 = 1
            shift 6 3 -8192
            low 6 = 0
            shift 6 3 -9000
            compare 6 15 = 0
            shift 6 4 -8191
            low 6 = -2
            shift 6 4 -8192
            low 6 = -1
            length 6 = 0
            shift 6 4 -9000
            low 6 = -1
            length 6 = 0
            """);
        Sentences.hold("Promise 7", "IllegalArgumentException: n is not -9000 .. 9000, too", Sentences.EDGES + """
            set 6 7
            shift 6 15 9001 = throws.IllegalArgumentException
            shift 6 0 9001 = throws.IllegalArgumentException
            shift 6 15 -9001 = throws.IllegalArgumentException
            shift 6 0 -9001 = throws.IllegalArgumentException
            shift 6 4 -9001 = throws.IllegalArgumentException
            shift 6 15 2147483647 = throws.IllegalArgumentException
            shift 6 0 2147483647 = throws.IllegalArgumentException
            shift 6 15 -2147483648 = throws.IllegalArgumentException
            shift 6 0 -2147483648 = throws.IllegalArgumentException
            low 6 = 7
            shift 6 15 9000
            low 6 = 0
            shift 6 1 -9000
            low 6 = -1
            """);
        Sentences.hold("Promise 7", LARGE, Sentences.EDGES + """
            set 6 7
            shift 6 0 8192 = throws.UnsupportedOperationException
            shift 6 1 8192 = throws.UnsupportedOperationException
            shift 6 0 9000 = throws.UnsupportedOperationException
            shift 6 1 9000 = throws.UnsupportedOperationException
            shift 6 3 1 = throws.UnsupportedOperationException
            shift 6 4 1 = throws.UnsupportedOperationException
            shift 6 3 9000 = throws.UnsupportedOperationException
            shift 6 4 9000 = throws.UnsupportedOperationException
            shift 6 6 8190 = throws.UnsupportedOperationException
            low 6 = 7
            shift 6 6 8189
            length 6 = 8192
            ones 6 = 3
            """);
    }

    private static void power() {
        Sentences.hold("Promise 8", "Register r becomes a to the power n",
            Runs.rows("set 0 A; power 1 0 B; printed 1 10 = C; low 0 = A; ",
            "3 1 3", "-3 1 -3", "3 2 9", "-3 2 9", "-3 3 -27", "3 39 4052555153018976267", "0 1 0", "0 8192 0",
            "1 8192 1", "-1 8191 -1", "-1 8192 1", "10 30 1000000000000000000000000000000",
            "-10 31 -10000000000000000000000000000000", "2 62 4611686018427387904"));
        Sentences.hold("Promise 8", "(1 for n = 0).", Sentences.EDGES
            + Runs.rows("set 6 9; power 6 A 0; low 6 = 1; length 6 = 1; ", "15", "0", "1", "2", "3", "4", "5", "6"));
        Sentences.hold("Promise 8", "IllegalArgumentException: n is not 0 .. 8192, too", Sentences.EDGES
            + Runs.rows("set 6 9; power 6 A B = throws.IllegalArgumentException; low 6 = 9; ", "15 -1", "0 -1", "3 -1",
            "15 8193", "0 8193", "1 8193", "15 2147483647", "0 2147483647", "15 -2147483648", "0 -2147483648")
            + "power 6 15 8192; low 6 = 0; power 6 1 8192; low 6 = 1; ");
        Sentences.hold("Promise 8", LARGE, Sentences.EDGES + """
            set 6 2
            set 7 -3
            set 8 9223372036854775807
            set 9 90
            power 9 6 8192 = throws.UnsupportedOperationException
            power 9 7 5169 = throws.UnsupportedOperationException
            power 9 7 8192 = throws.UnsupportedOperationException
            power 9 8 131 = throws.UnsupportedOperationException
            power 9 8 8192 = throws.UnsupportedOperationException
            power 9 3 2 = throws.UnsupportedOperationException
            power 9 4 3 = throws.UnsupportedOperationException
            power 9 4 8191 = throws.UnsupportedOperationException
            low 9 = 90
            power 9 6 8191
            compare 9 2 = 0
            power 9 7 5168
            length 9 = 8192
            power 9 8 130
            length 9 = 8190
            power 9 4 1
            compare 9 4 = 0
            """);
    }

    private static void root() {
        StringBuilder small = new StringBuilder();
        for (int a = 0; a < 150; a++) {
            small.append("set 0 ").append(a).append("; root 1 0; low 1 = ").append((int) Math.sqrt(a)).append("; ");
        }
        Sentences.hold("Promise 9", "Register r becomes the greatest whole number whose square is not above a.",
            small.toString(),
            Runs.rows("set 0 A; root 1 0; low 1 = B; low 0 = A; ", "9223372030926249001 3037000499",
            "9223372030926249000 3037000498", "9223372036854775807 3037000499", "4611686018427387904 2147483648",
            "4611686018427387903 2147483647", "4611686014132420609 2147483647", "4611686014132420608 2147483646"),
            Sentences.EDGES + Runs.rows("set 6 A; shift 6 6 B; reckon 7 6 6 2; root 8 7; compare 8 6 = 0; "
                + "reckon 8 7 1 0; root 8 8; "
                + "reckon 8 8 0 0; compare 8 6 = 0; reckon 7 7 6 0; reckon 7 7 6 0; root 8 7; compare 8 6 = 0; "
                + "reckon 7 7 0 0; "
                + "root 8 7; reckon 8 8 1 0; compare 8 6 = 0; ",
                "1 15", "1 31", "3 30", "1 61", "9223372036854775807 31", "12345 700", "1 2047",
                "9223372036854775807 2000", "1 4094", "9223372036854775805 4032"),
            Sentences.EDGES + """
            root 6 3
            length 6 = 4096
            ones 6 = 4096
            reckon 7 6 6 2
            root 8 7
            compare 8 6 = 0
            root 8 2
            reckon 9 8 8 2
            compare 9 2 = -1
            reckon 8 8 0 0
            reckon 9 8 8 2
            compare 9 2 = 1
            """);
        Sentences.hold("Promise 9", "ArithmeticException: a is below 0.", Sentences.EDGES + """
            set 6 -4
            root 7 1 = throws.ArithmeticException
            root 7 4 = throws.ArithmeticException
            root 7 5 = throws.ArithmeticException
            root 7 6 = throws.ArithmeticException
            root 6 6 = throws.ArithmeticException
            low 6 = -4
            low 7 = 0
            root 6 15
            low 6 = 0
            """);
    }

    private static void common() {
        Sentences.hold("Promise 10", "Register r becomes the greatest whole number that divides a and b",
            Runs.rows("set 0 A; set 1 B; common 2 0 1; printed 2 10 = C; common 2 1 0; printed 2 10 = C; ", "12 18 6",
            "-12 18 6", "12 -18 6", "-12 -18 6", "17 13 1", "1 1 1", "-1 -1 1", "7 7 7", "-7 7 7", "6 12 6",
            "1 9223372036854775807 1", "0 5 5", "0 -5 5", "0 1 1", "0 -1 1",
            "-9223372036854775808 0 9223372036854775808", "-9223372036854775808 6 2",
            "6000000000000000000 4500000000000000000 1500000000000000000", "7540113804746346429 4660046610375530309 1"),
            Sentences.EDGES + """
            common 6 3 3
            compare 6 3 = 0
            common 6 4 4
            compare 6 3 = 0
            common 6 3 4
            compare 6 3 = 0
            common 6 4 15
            compare 6 3 = 0
            common 6 15 5
            compare 6 2 = 0
            common 6 2 5
            compare 6 2 = 0
            common 6 2 3
            low 6 = 1
            length 6 = 1
            set 6 10
            set 7 6
            set 8 2
            power 6 6 2000
            power 7 7 2500
            power 8 8 2000
            common 9 6 7
            compare 9 8 = 0
            common 9 7 6
            compare 9 8 = 0
            """);
        Sentences.hold("Promise 10", "0 when both are 0.", """
            set 0 9
            common 0 1 2
            low 0 = 0
            length 0 = 0
            set 0 9
            common 0 1 1
            low 0 = 0
            common 0 0 0
            printed 0 10 = 0
            """);
    }

    private static void powerRest() {
        Sentences.hold("Promise 11", "Register r becomes the rest down of a to the power b, divided by m",
            Runs.rows("set 0 A; set 1 B; set 2 C; powerRest 3 0 1 2; low 3 = D; low 0 = A; low 1 = B; low 2 = C; ",
            "2 10 1000 24", "0 5 7 0", "-2 3 7 6", "-2 2 7 4", "-7 3 7 0", "7 3 7 0", "10 1 7 3", "-10 1 7 4",
            "3 5 1 0", "-3 5 1 0", "0 5 1 0", "1 9 2 1", "-1 9 2 1", "123456 1000003 1000003 123456",
            "5 9223372036854775807 2 1", "-1 9223372036854775807 9223372036854775807 9223372036854775806"),
            Sentences.EDGES + """
            shift 6 0 511
            reckon 7 6 1 0
            reckon 7 7 6 0
            set 8 2
            powerRest 9 8 6 7
            low 9 = 1
            length 9 = 1
            set 8 -2
            powerRest 9 8 7 7
            reckon 10 6 1 0
            compare 9 10 = 0
            powerRest 9 3 0 7
            length 9 = 0
            powerRest 9 4 0 7
            length 9 = 0
            powerRest 9 2 0 7
            compare 9 6 = 0
            powerRest 9 5 0 7
            compare 9 10 = 0
            powerRest 9 5 7 6
            length 9 = 0
            powerRest 9 4 7 6
            low 9 = 1
            """);
        Sentences.hold("Promise 11", "(any number to the power 0 is 1).", Sentences.EDGES + "set 6 7; "
            + Runs.rows("set 7 9; powerRest 7 A 15 6; low 7 = 1; length 7 = 1; ", "15", "0", "1", "2", "3", "4", "6")
            + Runs.rows("set 7 9; powerRest 7 A 15 0; low 7 = 0; length 7 = 0; ", "15", "0", "1", "3", "4"));
        String tooLong = "IllegalArgumentException: b or m needs more than 512 bits, too";
        Sentences.hold("Promise 11", tooLong, Sentences.EDGES + """
            set 6 3
            shift 7 0 512
            reckon 8 7 1 0
            set 9 9
            length 8 = 512
            length 7 = 513
            powerRest 9 6 7 6 = throws.IllegalArgumentException
            powerRest 9 6 6 7 = throws.IllegalArgumentException
            powerRest 9 6 7 7 = throws.IllegalArgumentException
            powerRest 9 6 3 6 = throws.IllegalArgumentException
            powerRest 9 6 6 3 = throws.IllegalArgumentException
            powerRest 9 15 7 0 = throws.IllegalArgumentException
            powerRest 9 15 15 7 = throws.IllegalArgumentException
            low 9 = 9
            powerRest 9 7 6 8
            low 9 = 1
            powerRest 9 7 8 6
            low 9 = 1
            powerRest 9 7 8 8
            low 9 = 1
            powerRest 9 3 8 8
            length 9 = 0
            """, Sentences.EDGES + """
            set 6 3
            shift 7 1 512
            reckon 8 7 1 0
            set 9 9
            length 7 = 512
            length 8 = 513
            powerRest 9 6 8 6 = throws.IllegalArgumentException
            powerRest 9 6 6 8 = throws.IllegalArgumentException
            powerRest 9 6 4 6 = throws.IllegalArgumentException
            powerRest 9 6 6 4 = throws.IllegalArgumentException
            powerRest 9 6 7 6 = throws.ArithmeticException
            powerRest 9 6 6 7 = throws.ArithmeticException
            low 9 = 9
            """);
        Sentences.hold("Promise 11", "ArithmeticException: b is below 0", """
            set 0 2
            set 1 -1
            set 2 -9223372036854775808
            set 3 9
            powerRest 3 0 1 0 = throws.ArithmeticException
            powerRest 3 0 2 0 = throws.ArithmeticException
            powerRest 3 1 1 0 = throws.ArithmeticException
            powerRest 3 15 1 0 = throws.ArithmeticException
            low 3 = 9
            powerRest 3 0 15 0
            low 3 = 1
            """);
        Sentences.hold("Promise 11", "or m is not above 0.", """
            set 0 2
            set 1 -1
            set 2 -9223372036854775808
            set 3 9
            set 4 1
            powerRest 3 0 0 15 = throws.ArithmeticException
            powerRest 3 0 15 15 = throws.ArithmeticException
            powerRest 3 0 0 1 = throws.ArithmeticException
            powerRest 3 0 0 2 = throws.ArithmeticException
            powerRest 3 15 15 1 = throws.ArithmeticException
            low 3 = 9
            powerRest 3 0 0 4
            low 3 = 0
            """);
    }
}
