/** The sentences of promises 12 to 16: the calls that only look at registers. */
final class LookingSentences {
    private LookingSentences() {
    }

    static void hold() {
        compare();
        low();
        length();
        bit();
        ones();
    }

    private static void compare() {
        String[] rising = {
            "-9223372036854775808", "-9223372036854775807", "-4611686018427387905", "-4611686018427387904",
            "-2147483649", "-2147483648", "-2", "-1", "0", "1", "2", "2147483647", "2147483648", "4611686018427387903",
            "4611686018427387904", "9223372036854775806", "9223372036854775807",
        };
        StringBuilder run = new StringBuilder();
        for (int i = 0; i + 1 < rising.length; i++) {
            run.append("set 0 ").append(rising[i]).append("; set 1 ").append(rising[i + 1]).append("; set 2 ")
                .append(rising[i]);
            run.append("; compare 0 1 = -1; compare 1 0 = 1; compare 0 2 = 0; compare 1 1 = 0; ");
        }
        Sentences.hold("Promise 12", "-1, 0 or 1 when register a is below, the same as, or above register b.",
            run.toString(),
            Sentences.EDGES + """
            compare 4 3 = -1
            compare 3 4 = 1
            compare 4 5 = -1
            compare 5 4 = 1
            compare 2 3 = -1
            compare 3 2 = 1
            compare 4 1 = -1
            compare 1 4 = 1
            compare 3 0 = 1
            compare 4 0 = -1
            compare 0 4 = 1
            compare 15 4 = 1
            compare 15 3 = -1
            compare 3 15 = 1
            reckon 6 3 0 1
            compare 6 3 = -1
            compare 3 6 = 1
            reckon 6 6 0 0
            compare 6 3 = 0
            reckon 6 4 0 0
            compare 6 4 = 1
            compare 4 6 = -1
            reckon 6 4 4 1
            compare 6 15 = 0
            compare 15 6 = 0
            """);
    }

    private static void low() {
        Sentences.hold("Promise 13", "The lowest 64 bits of a register as a long.",
            Runs.rows("set 0 A; low 0 = A; ", "0", "1", "-1", "2147483647", "2147483648", "-2147483648",
            "-2147483649", "4611686018427387903", "4611686018427387904", "-4611686018427387904", "-4611686018427387905",
            "9223372036854775807", "-9223372036854775807", "-9223372036854775808"),
            """
            set 0 1
            set 1 -1
            shift 2 0 62
            low 2 = 4611686018427387904
            shift 2 0 63
            low 2 = -9223372036854775808
            reckon 2 2 0 1
            low 2 = 9223372036854775807
            shift 2 0 64
            low 2 = 0
            reckon 3 2 0 1
            low 3 = -1
            reckon 3 2 0 0
            low 3 = 1
            shift 2 1 64
            low 2 = 0
            reckon 3 2 0 0
            low 3 = 1
            reckon 3 2 0 1
            low 3 = -1
            shift 2 1 63
            reckon 2 2 0 1
            low 2 = 9223372036854775807
            shift 2 1 63
            low 2 = -9223372036854775808
            shift 2 0 65
            reckon 2 2 1 0
            low 2 = -1
            shift 2 2 1
            low 2 = -2
            shift 2 2 62
            low 2 = -9223372036854775808
            shift 2 2 1
            low 2 = 0
            """, Sentences.EDGES + "low 2 = 0; low 3 = -1; low 4 = 1; low 5 = 0; reckon 6 5 0 1; low 6 = -1; ");
    }

    private static void length() {
        Sentences.hold("Promise 14", "How many bits a register needs",
            Runs.rows("set 0 A; length 0 = B; ", "0 0", "-1 0", "1 1", "-2 1", "2 2", "-3 2", "3 2",
            "-4 2", "4 3", "-5 3", "7 3", "-8 3", "8 4", "-9 4", "255 8", "256 9", "-256 8", "-257 9",
            "9223372036854775807 63", "-9223372036854775808 63"),
            Sentences.EDGES + "length 2 = 8192; length 3 = 8192; length 4 = 8192; length 5 = 8191; reckon 6 5 0 0; "
                + "length 6 = 8191; "
            + "reckon 6 5 0 1; length 6 = 8192; reckon 6 2 0 1; length 6 = 8191; ");
        // 2^n, one less, -2^n, one less, one more.
        String lines = "shift 3 0 A; length 3 = B; reckon 4 3 0 1; length 4 = A; shift 3 1 A; length 3 = A; "
            + "reckon 4 3 0 1; length 4 = B; "
            + "reckon 4 3 0 0; length 4 = A; ";
        Sentences.hold("Promise 14", "the least n such that bit n and all behind it are the same.",
            "set 0 1; set 1 -1; "
            + Runs.rows(lines, "2 3", "30 31", "31 32", "32 33", "61 62", "62 63", "63 64", "64 65",
            "93 94", "511 512", "512 513", "8190 8191"),
            Sentences.EDGES + """
            bit 3 8191 = true
            bit 3 8192 = false
            length 3 = 8192
            bit 5 8190 = false
            bit 5 8191 = true
            length 5 = 8191
            """);
    }

    private static void bit() {
        Sentences.hold("Promise 15", "Bit i (from 0 on) of a register.", """
            set 0 6
            bit 0 0 = false
            bit 0 1 = true
            bit 0 2 = true
            bit 0 3 = false
            bit 0 63 = false
            bit 0 64 = false
            set 0 -6
            bit 0 0 = false
            bit 0 1 = true
            bit 0 2 = false
            bit 0 3 = true
            bit 0 63 = true
            bit 0 64 = true
            bit 1 0 = false
            """, "set 0 1; set 1 -1; " + Runs.rows(
                "shift 2 0 B; bit 2 A = false; bit 2 B = true; bit 2 C = false; shift 2 1 B; bit 2 A = false; "
                    + "bit 2 B = true; bit 2 C = true; ",
                "0 1 2", "29 30 31", "30 31 32", "31 32 33", "60 61 62", "61 62 63", "62 63 64", "63 64 65",
                "8190 8191 8192"));
        Sentences.hold("Promise 15", "IllegalArgumentException: i is below 0, too.", Sentences.EDGES
            + Runs.rows("bit A -1 = throws.IllegalArgumentException; bit A -31 = throws.IllegalArgumentException; "
                + "bit A -2147483648 = throws.IllegalArgumentException; ", "0", "1", "3", "4", "15")
            + "bit 0 0 = true; bit 1 0 = true; bit 15 0 = false; ");
    }

    private static void ones() {
        Sentences.hold("Promise 16", "How many bits of a register are other than those far behind.",
            Runs.rows("set 0 A; ones 0 = B; ", "0 0", "-1 0", "1 1", "-2 1", "2 1", "-3 1", "3 2", "-4 2",
            "7 3", "-8 3", "8 1", "-9 1", "2147483647 31", "2147483648 1", "-2147483648 31", "-2147483649 1",
            "9223372036854775807 63", "-9223372036854775808 63"),
            Sentences.EDGES + "ones 2 = 1; ones 3 = 8192; ones 4 = 8191; ones 5 = 8191; reckon 6 2 1 0; "
                + "ones 6 = 8191; reckon 6 5 1 0; ones 6 = 1; ");
    }
}
