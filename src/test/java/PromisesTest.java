/** Every promise of the document with ordinary inputs, the edges that it names, and wrong inputs. */
public final class PromisesTest {
    public static void main(String[] args) {
        newObject();
        set();
        move();
        reckon();
        divide();
        combine();
        shift();
        power();
        root();
        common();
        powerRest();
        compare();
        low();
        length();
        bit();
        ones();
        feed();
        read();
        print();
        out();
        turn();
        Runs.finish("PromisesTest");
    }

    private static void newObject() {
        StringBuilder all = new StringBuilder();
        for (int r = 0; r < 16; r++) {
            all.append("low ").append(r).append(" = 0\nlength ").append(r).append(" = 0\nones ").append(r).append(" = 0\n");
        }
        Runs.run("1, registers", all.toString());
        Runs.run("1, text and page", """
            out 0 = -1
            turn = 0
            read 0 10 = 0
            """);
    }

    private static void set() {
        Runs.run("2", """
            set 0 12345678901234
            low 0 = 12345678901234
            printed 0 10 = 12345678901234
            set 0 -1
            printed 0 10 = -1
            set 15 9223372036854775807
            printed 15 10 = 9223372036854775807
            set 15 -9223372036854775808
            printed 15 10 = -9223372036854775808
            length 15 = 63
            set 15 0
            printed 15 10 = 0
            set 16 1 = throws.IllegalArgumentException
            set -1 1 = throws.IllegalArgumentException
            low 0 = -1
            """);
    }

    private static void move() {
        Runs.run("3", """
            set 3 -77
            move 4 3
            low 4 = -77
            low 3 = -77
            move 4 4
            low 4 = -77
            set 3 5
            low 4 = -77
            power 5 4 1000
            move 6 5
            compare 6 5 = 0
            move 5 0
            low 5 = 0
            length 5 = 0
            length 6 = 6267
            move 16 0 = throws.IllegalArgumentException
            move 0 16 = throws.IllegalArgumentException
            move -1 0 = throws.IllegalArgumentException
            move 0 -1 = throws.IllegalArgumentException
            low 0 = 0
            """);
    }

    private static void reckon() {
        Runs.run("4, small numbers", """
            set 0 7
            set 1 -12
            reckon 2 0 1 0
            low 2 = -5
            reckon 2 0 1 1
            low 2 = 19
            reckon 2 1 0 1
            low 2 = -19
            reckon 2 1 0 0
            low 2 = -5
            reckon 2 0 1 2
            low 2 = -84
            reckon 2 1 1 2
            low 2 = 144
            reckon 2 1 3 2
            compare 2 3 = 0
            reckon 2 3 3 1
            compare 2 3 = 0
            reckon 2 3 1 1
            low 2 = 12
            reckon 0 0 0 0
            low 0 = 14
            reckon 0 0 0 2
            low 0 = 196
            reckon 0 0 0 1
            low 0 = 0
            length 0 = 0
            """);
        Runs.run("4, large numbers", """
            set 0 9223372036854775807
            set 1 -9223372036854775808
            reckon 2 0 0 2
            printed 2 10 = 85070591730234615847396907784232501249
            reckon 2 0 1 2
            printed 2 10 = -85070591730234615856620279821087277056
            reckon 2 1 1 0
            printed 2 10 = -18446744073709551616
            reckon 2 2 2 1
            length 2 = 0
            """);
        Runs.run("4, too large", """
            set 0 1
            shift 1 0 8191
            reckon 2 1 0 1
            reckon 2 1 2 0
            length 2 = 8192
            ones 2 = 8192
            reckon 3 2 0 0 = throws.UnsupportedOperationException
            reckon 3 1 1 0 = throws.UnsupportedOperationException
            set 4 -1
            reckon 5 2 4 2
            length 5 = 8192
            reckon 5 5 4 0 = throws.UnsupportedOperationException
            reckon 5 5 0 1 = throws.UnsupportedOperationException
            length 5 = 8192
            ones 5 = 8191
            reckon 5 5 2 0
            length 5 = 0
            length 3 = 0
            shift 6 0 4096
            reckon 6 6 6 2 = throws.UnsupportedOperationException
            length 6 = 4097
            reckon 7 6 0 1
            reckon 7 7 6 2
            length 7 = 8192
            """);
        Runs.run("4, wrong inputs", """
            set 0 3
            reckon 16 0 0 0 = throws.IllegalArgumentException
            reckon 0 16 0 0 = throws.IllegalArgumentException
            reckon 0 0 16 0 = throws.IllegalArgumentException
            reckon -1 0 0 0 = throws.IllegalArgumentException
            reckon 0 -1 0 0 = throws.IllegalArgumentException
            reckon 0 0 -1 0 = throws.IllegalArgumentException
            reckon 0 0 0 3 = throws.IllegalArgumentException
            reckon 0 0 0 -1 = throws.IllegalArgumentException
            low 0 = 3
            shift 1 0 8190
            reckon 16 1 1 0 = throws.IllegalArgumentException
            reckon 2 1 1 3 = throws.IllegalArgumentException
            """);
    }

    private static void divide() {
        String[] rows = {
            "7 2 3 1 3 1", "7 -2 -4 -1 -3 1", "-7 2 -4 1 -3 -1", "-7 -2 3 -1 3 -1",
            "6 2 3 0 3 0", "6 -2 -3 0 -3 0", "-6 2 -3 0 -3 0", "-6 -2 3 0 3 0",
            "1 5 0 1 0 1", "1 -5 -1 -4 0 1", "-1 5 -1 4 0 -1", "-1 -5 0 -1 0 -1",
            "0 5 0 0 0 0", "0 -5 0 0 0 0", "5 5 1 0 1 0", "5 -5 -1 0 -1 0",
            "9223372036854775807 4294967296 2147483647 4294967295 2147483647 4294967295",
            "-9223372036854775808 10 -922337203685477581 2 -922337203685477580 -8",
        };
        for (String row : rows) {
            String[] parts = row.split(" ");
            StringBuilder lines = new StringBuilder("set 0 " + parts[0] + "\nset 1 " + parts[1] + "\n");
            for (int by = 0; by < 4; by++) {
                lines.append("divide 2 0 1 ").append(by).append("\nlow 2 = ").append(parts[2 + by]).append('\n');
            }
            Runs.run("5, " + row, lines.toString());
        }
        Runs.run("5, large numbers", """
            set 0 10
            power 1 0 100
            set 2 -7
            divide 3 1 2 0
            divide 4 1 2 2
            reckon 5 4 3 1
            low 5 = 1
            divide 5 1 2 1
            low 5 = -3
            divide 5 1 2 3
            low 5 = 4
            power 6 0 60
            divide 6 1 6 0
            power 7 0 40
            compare 6 7 = 0
            divide 1 1 7 1
            length 1 = 0
            divide 7 7 7 3
            length 7 = 0
            """);
        Runs.run("5, a first estimate of a limb that is two too many", """
            set 0 2305843011361177599
            set 1 2147483645
            set 2 1
            reckon 3 0 1 2
            reckon 3 3 0 0
            reckon 3 3 2 1
            divide 4 3 0 0
            low 4 = 2147483645
            divide 4 3 0 1
            low 4 = 2305843011361177598
            """);
        Runs.run("5, a last estimate of a limb that is one too many", """
            set 0 1073741826
            shift 0 0 62
            set 1 2
            reckon 0 0 1 1
            reckon 2 0 0 0
            reckon 2 2 1 1
            divide 3 2 0 0
            low 3 = 1
            length 3 = 1
            divide 4 2 0 1
            reckon 4 0 4 1
            low 4 = 2
            length 4 = 2
            """);
        Runs.run("5, largest numbers", """
            set 0 1
            shift 1 0 8191
            reckon 2 1 0 1
            reckon 2 2 1 0
            divide 3 2 0 0
            compare 3 2 = 0
            set 4 -1
            divide 3 2 4 0
            length 3 = 8192
            reckon 3 3 2 0
            length 3 = 0
            divide 3 4 2 0
            low 3 = -1
            divide 3 4 2 1
            reckon 3 3 4 1
            compare 3 2 = 0
            """);
        Runs.run("5, wrong inputs", """
            set 0 3
            divide 0 0 1 0 = throws.ArithmeticException
            divide 0 0 1 1 = throws.ArithmeticException
            divide 0 0 1 2 = throws.ArithmeticException
            divide 0 0 1 3 = throws.ArithmeticException
            divide 1 1 1 0 = throws.ArithmeticException
            divide 0 0 1 4 = throws.IllegalArgumentException
            divide 0 0 1 -1 = throws.IllegalArgumentException
            divide 16 0 1 0 = throws.IllegalArgumentException
            divide 0 16 1 0 = throws.IllegalArgumentException
            divide 0 0 16 0 = throws.IllegalArgumentException
            divide -1 0 0 0 = throws.IllegalArgumentException
            divide 0 -1 0 0 = throws.IllegalArgumentException
            divide 0 0 -1 0 = throws.IllegalArgumentException
            low 0 = 3
            """);
    }

    private static void combine() {
        Runs.run("6, small numbers", """
            set 0 12
            set 1 10
            combine 2 0 1 0
            low 2 = 8
            combine 2 0 1 1
            low 2 = 14
            combine 2 0 1 2
            low 2 = 6
            set 1 -10
            combine 2 0 1 0
            low 2 = 4
            combine 2 0 1 1
            low 2 = -2
            combine 2 0 1 2
            low 2 = -6
            combine 2 1 0 2
            low 2 = -6
            set 0 -12
            combine 2 0 1 0
            low 2 = -12
            combine 2 0 1 1
            low 2 = -10
            combine 2 0 1 2
            low 2 = 2
            combine 0 0 0 2
            length 0 = 0
            compare 0 15 = 0
            """);
        Runs.run("6, large numbers", """
            set 0 1
            set 1 -1
            shift 2 0 100
            combine 3 2 1 2
            length 3 = 101
            ones 3 = 1
            bit 3 100 = false
            bit 3 101 = true
            combine 3 2 1 0
            compare 3 2 = 0
            combine 3 2 1 1
            compare 3 1 = 0
            shift 4 1 100
            combine 5 4 2 2
            shift 6 1 101
            compare 5 6 = 0
            """);
        Runs.run("6, too large", """
            set 0 -1
            set 1 1
            shift 2 1 8191
            reckon 3 2 1 1
            reckon 3 3 2 0
            combine 4 3 0 2 = throws.UnsupportedOperationException
            combine 4 0 3 2 = throws.UnsupportedOperationException
            length 4 = 0
            reckon 5 0 3 2
            set 6 -2
            combine 7 5 6 0 = throws.UnsupportedOperationException
            combine 7 5 6 1
            low 7 = -1
            combine 7 5 0 2
            length 7 = 8192
            ones 7 = 8191
            combine 7 5 3 0
            low 7 = 1
            length 7 = 1
            """);
        Runs.run("6, wrong inputs", """
            set 0 5
            combine 16 0 0 0 = throws.IllegalArgumentException
            combine 0 16 0 0 = throws.IllegalArgumentException
            combine 0 0 16 0 = throws.IllegalArgumentException
            combine -1 0 0 0 = throws.IllegalArgumentException
            combine 0 -1 0 0 = throws.IllegalArgumentException
            combine 0 0 -1 0 = throws.IllegalArgumentException
            combine 0 0 0 3 = throws.IllegalArgumentException
            combine 0 0 0 -1 = throws.IllegalArgumentException
            low 0 = 5
            """);
    }

    private static void shift() {
        Runs.run("7", """
            set 0 5
            shift 1 0 3
            low 1 = 40
            shift 1 0 0
            low 1 = 5
            shift 1 0 -1
            low 1 = 2
            shift 1 0 -3
            low 1 = 0
            set 0 -5
            shift 1 0 3
            low 1 = -40
            shift 1 0 -1
            low 1 = -3
            shift 1 0 -3
            low 1 = -1
            shift 1 0 -9000
            low 1 = -1
            set 0 -8
            shift 1 0 -3
            low 1 = -1
            shift 1 0 -2
            low 1 = -2
            shift 0 0 -4
            low 0 = -1
            set 0 3
            shift 0 0 200
            bit 0 199 = false
            bit 0 200 = true
            bit 0 201 = true
            length 0 = 202
            shift 0 0 -199
            low 0 = 6
            shift 0 0 -9000
            low 0 = 0
            """);
        Runs.run("7, too large", """
            set 0 1
            set 1 -1
            shift 2 0 8191
            length 2 = 8192
            shift 3 0 8192 = throws.UnsupportedOperationException
            shift 3 1 8192 = throws.UnsupportedOperationException
            shift 3 0 9000 = throws.UnsupportedOperationException
            shift 3 2 9000 = throws.UnsupportedOperationException
            shift 3 2 1 = throws.UnsupportedOperationException
            shift 3 2 0
            compare 3 2 = 0
            shift 3 1 8191
            length 3 = 8191
            shift 3 3 1 = throws.UnsupportedOperationException
            length 3 = 8191
            shift 3 15 9000
            low 3 = 0
            length 3 = 0
            """);
        Runs.run("7, wrong inputs", """
            set 0 1
            shift 0 0 9001 = throws.IllegalArgumentException
            shift 0 0 -9001 = throws.IllegalArgumentException
            shift 0 0 2147483647 = throws.IllegalArgumentException
            shift 0 0 -2147483648 = throws.IllegalArgumentException
            shift 16 0 9000 = throws.IllegalArgumentException
            shift 0 16 9000 = throws.IllegalArgumentException
            shift -1 0 1 = throws.IllegalArgumentException
            shift 0 -1 1 = throws.IllegalArgumentException
            low 0 = 1
            """);
    }

    private static void power() {
        Runs.run("8", """
            set 0 3
            power 1 0 0
            low 1 = 1
            power 1 0 1
            low 1 = 3
            power 1 0 39
            low 1 = 4052555153018976267
            power 1 0 80
            printed 1 10 = 147808829414345923316083210206383297601
            set 0 -3
            power 1 0 3
            low 1 = -27
            power 1 0 4
            low 1 = 81
            power 1 0 0
            low 1 = 1
            power 0 0 2
            low 0 = 9
            power 1 15 0
            low 1 = 1
            power 1 15 8192
            low 1 = 0
            set 0 -1
            power 1 0 8191
            low 1 = -1
            power 1 0 8192
            low 1 = 1
            """);
        Runs.run("8, too large", """
            set 0 2
            power 1 0 8191
            length 1 = 8192
            ones 1 = 1
            power 1 0 8192 = throws.UnsupportedOperationException
            length 1 = 8192
            set 0 -2
            power 2 0 8191
            length 2 = 8191
            power 2 0 8192 = throws.UnsupportedOperationException
            power 3 1 1
            compare 3 1 = 0
            power 3 1 2 = throws.UnsupportedOperationException
            power 3 1 8192 = throws.UnsupportedOperationException
            set 0 3
            power 3 0 5168
            length 3 = 8192
            power 3 0 5169 = throws.UnsupportedOperationException
            set 0 9223372036854775807
            power 3 0 130
            length 3 = 8190
            power 3 0 131 = throws.UnsupportedOperationException
            """);
        Runs.run("8, wrong inputs", """
            set 0 2
            power 0 0 -1 = throws.IllegalArgumentException
            power 0 0 8193 = throws.IllegalArgumentException
            power 0 0 -2147483648 = throws.IllegalArgumentException
            power 16 0 8192 = throws.IllegalArgumentException
            power 0 16 1 = throws.IllegalArgumentException
            power -1 0 1 = throws.IllegalArgumentException
            power 0 -1 1 = throws.IllegalArgumentException
            low 0 = 2
            """);
    }

    private static void root() {
        int[][] rows = {{0, 0}, {1, 1}, {2, 1}, {3, 1}, {4, 2}, {8, 2}, {9, 3}, {15, 3}, {16, 4}, {99, 9}, {100, 10}};
        StringBuilder lines = new StringBuilder();
        for (int[] row : rows) {
            lines.append("set 0 ").append(row[0]).append("\nroot 1 0\nlow 1 = ").append(row[1]).append('\n');
        }
        Runs.run("9, small numbers", lines.toString());
        Runs.run("9, large numbers", """
            set 0 9223372036854775807
            root 1 0
            low 1 = 3037000499
            root 0 0
            low 0 = 3037000499
            set 2 1
            set 3 10
            power 4 3 1000
            power 5 3 500
            root 6 4
            compare 6 5 = 0
            reckon 4 4 2 1
            root 6 4
            reckon 5 5 2 1
            compare 6 5 = 0
            shift 7 2 8191
            reckon 8 7 2 1
            reckon 7 7 8 0
            root 8 7
            length 8 = 4096
            ones 8 = 4096
            """);
        Runs.run("9, wrong inputs", """
            set 0 -1
            root 1 0 = throws.ArithmeticException
            root 0 0 = throws.ArithmeticException
            root 16 0 = throws.IllegalArgumentException
            root -1 0 = throws.IllegalArgumentException
            root 0 16 = throws.IllegalArgumentException
            root 0 -1 = throws.IllegalArgumentException
            low 0 = -1
            low 1 = 0
            """);
    }

    private static void common() {
        long[][] rows = {{12, 18, 6}, {18, 12, 6}, {-12, 18, 6}, {12, -18, 6}, {-12, -18, 6}, {0, 5, 5}, {5, 0, 5},
            {0, -5, 5}, {-5, 0, 5}, {0, 0, 0}, {7, 7, 7}, {17, 13, 1}, {1, 9, 1}, {-1, 0, 1},
            {7540113804746346429L, 4660046610375530309L, 1}, {6000000000000000000L, 4500000000000000000L, 1500000000000000000L}};
        StringBuilder lines = new StringBuilder();
        for (long[] row : rows) {
            lines.append("set 0 ").append(row[0]).append("\nset 1 ").append(row[1]);
            lines.append("\ncommon 2 0 1\nlow 2 = ").append(row[2]).append('\n');
        }
        Runs.run("10, small numbers", lines.toString());
        Runs.run("10, large numbers", """
            set 0 6
            set 1 -10
            power 2 0 1000
            power 3 1 1501
            common 4 2 3
            set 5 2
            power 6 5 1000
            compare 4 6 = 0
            common 4 2 2
            compare 4 2 = 0
            common 4 3 15
            set 5 -1
            reckon 5 3 5 2
            compare 4 5 = 0
            common 2 2 3
            compare 2 6 = 0
            set 7 -9223372036854775808
            common 7 7 7
            printed 7 10 = 9223372036854775808
            """);
        Runs.run("10, neighbours of Fibonacci's row, where the quotients are all 1", """
            set 0 1
            set 1 1
            """ + "reckon 0 0 1 0\nreckon 1 0 1 0\n".repeat(200) + """
            set 2 12345678901
            reckon 3 0 2 2
            reckon 4 1 2 2
            common 5 3 4
            compare 5 2 = 0
            """);
        Runs.run("10, wrong inputs", """
            set 0 4
            common 16 0 0 = throws.IllegalArgumentException
            common 0 16 0 = throws.IllegalArgumentException
            common 0 0 16 = throws.IllegalArgumentException
            common -1 0 0 = throws.IllegalArgumentException
            common 0 -1 0 = throws.IllegalArgumentException
            common 0 0 -1 = throws.IllegalArgumentException
            low 0 = 4
            """);
    }

    private static void powerRest() {
        long[][] rows = {{2, 10, 1000, 24}, {3, 0, 7, 1}, {0, 0, 7, 1}, {0, 0, 1, 0}, {5, 0, 1, 0}, {0, 5, 7, 0},
            {-2, 3, 7, 6}, {-2, 2, 7, 4}, {-7, 3, 7, 0}, {10, 1, 7, 3}, {-10, 1, 7, 4}, {123456, 1000003, 1000003, 123456}};
        StringBuilder lines = new StringBuilder();
        for (long[] row : rows) {
            lines.append("set 0 ").append(row[0]).append("\nset 1 ").append(row[1]).append("\nset 2 ").append(row[2]);
            lines.append("\npowerRest 3 0 1 2\nlow 3 = ").append(row[3]).append('\n');
        }
        Runs.run("11, small numbers", lines.toString());
        Runs.run("11, large numbers", """
            set 0 2
            set 1 1
            power 2 0 127
            reckon 2 2 1 1
            set 3 3
            power 4 3 5000
            reckon 5 2 1 1
            powerRest 6 4 5 2
            low 6 = 1
            length 6 = 1
            powerRest 6 4 2 2
            divide 7 4 2 1
            compare 6 7 = 0
            powerRest 2 2 2 2
            length 2 = 0
            """);
        Runs.run("11, how many bits", """
            set 0 1
            set 1 -1
            set 2 3
            shift 3 0 511
            reckon 4 3 0 1
            reckon 4 4 3 0
            length 4 = 512
            powerRest 5 2 4 4
            length 5 = 510
            shift 6 0 512
            powerRest 5 2 6 2 = throws.IllegalArgumentException
            powerRest 5 2 2 6 = throws.IllegalArgumentException
            shift 7 1 512
            length 7 = 512
            powerRest 5 2 7 2 = throws.ArithmeticException
            powerRest 5 2 2 7 = throws.ArithmeticException
            reckon 8 7 0 1
            length 8 = 513
            powerRest 5 2 8 2 = throws.IllegalArgumentException
            powerRest 5 2 2 8 = throws.IllegalArgumentException
            powerRest 5 2 7 8 = throws.IllegalArgumentException
            powerRest 5 2 6 15 = throws.IllegalArgumentException
            powerRest 5 2 1 6 = throws.IllegalArgumentException
            length 5 = 510
            """);
        Runs.run("11, wrong inputs", """
            set 0 2
            set 1 -1
            powerRest 3 0 1 0 = throws.ArithmeticException
            powerRest 3 0 0 1 = throws.ArithmeticException
            powerRest 3 0 0 2 = throws.ArithmeticException
            powerRest 16 0 1 1 = throws.IllegalArgumentException
            powerRest 3 16 1 1 = throws.IllegalArgumentException
            powerRest 3 0 16 1 = throws.IllegalArgumentException
            powerRest 3 0 1 16 = throws.IllegalArgumentException
            powerRest -1 0 0 0 = throws.IllegalArgumentException
            powerRest 3 -1 0 0 = throws.IllegalArgumentException
            powerRest 3 0 -1 0 = throws.IllegalArgumentException
            powerRest 3 0 0 -1 = throws.IllegalArgumentException
            low 3 = 0
            """);
    }

    private static void compare() {
        Runs.run("12", """
            set 0 3
            set 1 5
            set 2 -3
            set 3 -5
            compare 0 1 = -1
            compare 1 0 = 1
            compare 1 1 = 0
            compare 2 3 = 1
            compare 3 2 = -1
            compare 2 2 = 0
            compare 0 2 = 1
            compare 2 0 = -1
            compare 4 2 = 1
            compare 4 0 = -1
            compare 4 5 = 0
            power 6 0 2000
            power 7 2 2001
            compare 6 7 = 1
            compare 7 6 = -1
            compare 6 1 = 1
            compare 7 3 = -1
            move 8 6
            compare 8 6 = 0
            reckon 8 8 1 1
            compare 8 6 = -1
            compare 6 8 = 1
            compare 16 0 = throws.IllegalArgumentException
            compare 0 16 = throws.IllegalArgumentException
            compare -1 0 = throws.IllegalArgumentException
            compare 0 -1 = throws.IllegalArgumentException
            """);
    }

    private static void low() {
        Runs.run("13", """
            set 0 -9223372036854775808
            low 0 = -9223372036854775808
            reckon 1 0 0 0
            low 1 = 0
            set 2 1
            reckon 1 1 2 1
            low 1 = -1
            length 1 = 65
            set 3 81985529216486895
            shift 4 3 1
            low 4 = 163971058432973790
            shift 4 3 8
            low 4 = 2541551405711093504
            shift 4 3 60
            low 4 = -1152921504606846976
            shift 4 3 64
            low 4 = 0
            reckon 5 15 4 1
            reckon 5 5 3 1
            low 5 = -81985529216486895
            low 16 = throws.IllegalArgumentException
            low -1 = throws.IllegalArgumentException
            """);
    }

    private static void length() {
        long[][] rows = {{0, 0}, {-1, 0}, {1, 1}, {-2, 1}, {2, 2}, {3, 2}, {4, 3}, {-3, 2}, {-4, 2}, {-5, 3}, {255, 8},
            {256, 9}, {-256, 8}, {-257, 9}, {Long.MAX_VALUE, 63}, {Long.MIN_VALUE, 63}};
        StringBuilder lines = new StringBuilder();
        for (long[] row : rows) {
            lines.append("set 0 ").append(row[0]).append("\nlength 0 = ").append(row[1]).append('\n');
        }
        for (int n = 30; n < 34; n++) {
            lines.append("set 0 -1\nshift 1 0 ").append(n).append("\nlength 1 = ").append(n);
            lines.append("\nreckon 1 1 0 0\nlength 1 = ").append(n + 1).append('\n');
        }
        lines.append("length 16 = throws.IllegalArgumentException\nlength -1 = throws.IllegalArgumentException\n");
        Runs.run("14", lines.toString());
    }

    private static void bit() {
        Runs.run("15", """
            set 0 10
            bit 0 0 = false
            bit 0 1 = true
            bit 0 2 = false
            bit 0 3 = true
            bit 0 4 = false
            bit 0 2147483647 = false
            set 1 -10
            bit 1 0 = false
            bit 1 1 = true
            bit 1 2 = true
            bit 1 3 = false
            bit 1 4 = true
            bit 1 2147483647 = true
            bit 2 0 = false
            set 3 1
            shift 3 3 8191
            bit 3 8190 = false
            bit 3 8191 = true
            bit 3 8192 = false
            bit 3 -1 = throws.IllegalArgumentException
            bit 3 -2147483648 = throws.IllegalArgumentException
            bit 16 0 = throws.IllegalArgumentException
            bit -1 0 = throws.IllegalArgumentException
            """);
    }

    private static void ones() {
        long[][] rows = {{0, 0}, {-1, 0}, {1, 1}, {-2, 1}, {7, 3}, {8, 1}, {-8, 3}, {-9, 1}, {-7, 2},
            {Long.MAX_VALUE, 63}, {Long.MIN_VALUE, 63}};
        StringBuilder lines = new StringBuilder();
        for (long[] row : rows) {
            lines.append("set 0 ").append(row[0]).append("\nones 0 = ").append(row[1]).append('\n');
        }
        lines.append("""
            set 0 -1
            shift 1 0 5000
            ones 1 = 5000
            reckon 1 1 0 0
            ones 1 = 1
            reckon 1 15 1 1
            ones 1 = 2
            ones 16 = throws.IllegalArgumentException
            ones -1 = throws.IllegalArgumentException
            """);
        Runs.run("16", lines.toString());
    }

    private static void feed() {
        Runs.run("17, any int", """
            feed 45 = true
            feed 49 = true
            read 0 10 = -1
            low 0 = -1
            feed 49 = true
            feed -1 = true
            read 0 10 = 1
            feed 2147483647 = true
            read 0 36 = 0
            feed -2147483648 = true
            read 0 36 = 0
            feed 65584 = true
            read 0 36 = 0
            feed 304 = true
            read 0 36 = 0
            low 0 = -1
            """);
        Runs.run("17, 3000 characters and no more", """
            set 0 1
            shift 1 0 2999
            print 1 2 = 3000
            turn = 3000
            feed 48 = false
            feed 45 = false
            read 2 2 = -1
            compare 2 1 = 0
            feed 49 = true
            shift 1 0 2998
            print 1 2 = 2999
            turn = 2999
            feed 48 = true
            feed 48 = false
            read 2 2 = -1
            length 2 = 3000
            """);
    }

    private static void read() {
        String[] rows = {
            "0 10 0", "7 8 7", "00012 10 12", "-5 10 -5", "-005 10 -5", "-0 10 0", "-000 10 0", "000 2 0",
            "ff 16 255", "FF 16 255", "-fF 16 -255", "Zz 36 1295", "z 36 35", "101 2 5", "9223372036854775807 10 9223372036854775807",
            "-9223372036854775808 10 -9223372036854775808", "-8000000000000000 16 -9223372036854775808",
            "1Y2P0IJ32E8E7 36 9223372036854775807", "222122 3 719",
        };
        for (String row : rows) {
            String[] parts = row.split(" ");
            Runs.run("18, " + row, "set 0 99\nfeedAll " + parts[0] + "\nread 0 " + parts[1] + " = -1\nlow 0 = " + parts[2]
                + "\nread 0 10 = 0\nlow 0 = " + parts[2] + "\n");
        }
        String[] flaws = {
            "- 10 1", "-- 10 1", "5- 10 1", "0-5 10 1", "--5 10 1", "12a 10 2", "12a4b 10 2", "2 2 0", "12 2 1", "-12 2 2",
            "8 8 0", "g 16 0", "G 16 0", "-g 16 1", "z 35 0", "5. 10 1", "+5 10 0", "1/ 36 1", "1: 36 1", "1@ 36 1",
            "1[ 36 1", "1` 36 1", "1{ 36 1", "-/ 10 1",
        };
        for (String row : flaws) {
            String[] parts = row.split(" ");
            Runs.run("18, flaw, " + row, "set 0 99\nfeedAll " + parts[0] + "\nread 0 " + parts[1] + " = " + parts[2]
                + "\nlow 0 = 99\nread 0 10 = 0\n");
        }
        Runs.run("18, too large", """
            set 0 1
            shift 1 0 8191
            print 1 16 = 2048
            turn = 2048
            read 2 16 = -1
            compare 2 1 = 0
            turn = 2048
            feed 48 = true
            read 2 16 = 3001
            compare 2 1 = 0
            turn = 2048
            read 2 17 = 3001
            compare 2 1 = 0
            read 2 17 = 0
            reckon 3 1 0 1
            reckon 3 3 1 0
            set 4 -1
            reckon 4 4 3 2
            print 4 16 = 2049
            turn = 2049
            read 5 16 = -1
            compare 5 4 = 0
            turn = 2049
            feed 70 = true
            read 5 16 = 3001
            compare 5 4 = 0
            turn = 2049
            feed 71 = true
            read 5 16 = 2049
            print 3 2 = 8192
            turn = 3000
            read 6 36 = 3001
            low 6 = 0
            turn = 3000
            read 6 2 = -1
            length 6 = 3000
            ones 6 = 3000
            """);
        Runs.run("18, wrong inputs", """
            feedAll 11
            read 0 1 = throws.IllegalArgumentException
            read 0 0 = throws.IllegalArgumentException
            read 0 -2 = throws.IllegalArgumentException
            read 0 37 = throws.IllegalArgumentException
            read 16 10 = throws.IllegalArgumentException
            read -1 10 = throws.IllegalArgumentException
            low 0 = 0
            read 0 2 = -1
            low 0 = 3
            """);
    }

    private static void print() {
        String[] rows = {
            "0 2 0", "0 36 0", "1 2 1", "-1 2 -1", "10 2 1010", "-10 2 -1010", "255 16 FF", "35 36 Z", "36 36 10", "-1295 36 -ZZ",
            "9 10 9", "10 10 10", "-100 10 -100", "1000000000 10 1000000000", "999999999 10 999999999",
            "9223372036854775807 36 1Y2P0IJ32E8E7", "-9223372036854775808 16 -8000000000000000",
            "9223372036854775807 7 22341010611245052052300", "4294967296 10 4294967296", "2147483648 2 10000000000000000000000000000000",
        };
        for (String row : rows) {
            String[] parts = row.split(" ");
            Runs.run("19, " + row, "set 0 " + parts[0] + "\nprinted 0 " + parts[1] + " = " + parts[2] + "\nlow 0 = " + parts[0]);
        }
        Runs.run("19, large numbers", """
            set 0 10
            power 1 0 60
            printed 1 10 = 1000000000000000000000000000000000000000000000000000000000000
            set 2 1
            reckon 1 2 1 1
            printed 1 10 = -999999999999999999999999999999999999999999999999999999999999
            shift 3 2 8191
            reckon 4 3 2 1
            reckon 3 3 4 0
            print 3 2 = 8192
            print 3 10 = 2467
            print 3 36 = 1585
            print 3 3 = 5169
            set 4 -1
            reckon 3 3 4 2
            print 3 2 = 8193
            out 0 = 45
            out 1 = 49
            out 8192 = 49
            out 8193 = -1
            """);
        Runs.run("19, wrong inputs", """
            set 0 12
            print 0 10 = 2
            print 1 1 = throws.IllegalArgumentException
            print 1 0 = throws.IllegalArgumentException
            print 1 -1 = throws.IllegalArgumentException
            print 1 37 = throws.IllegalArgumentException
            print 16 10 = throws.IllegalArgumentException
            print -1 10 = throws.IllegalArgumentException
            out 0 = 49
            out 1 = 50
            out 2 = -1
            """);
    }

    private static void out() {
        Runs.run("20", """
            out 0 = -1
            out -1 = -1
            set 0 -123
            print 0 10 = 4
            out 0 = 45
            out 1 = 49
            out 3 = 51
            out 4 = -1
            out -1 = -1
            out 2147483647 = -1
            out -2147483648 = -1
            set 0 5
            out 1 = 49
            print 0 10 = 1
            out 0 = 53
            out 1 = -1
            """);
    }

    private static void turn() {
        Runs.run("21", """
            feedAll 77
            turn = 0
            read 0 10 = 0
            set 0 -250
            print 0 16 = 3
            feedAll 77
            turn = 3
            out 0 = 45
            out 2 = 65
            read 1 16 = -1
            low 1 = -250
            turn = 3
            feed 48 = true
            read 1 16 = -1
            low 1 = -4000
            turn = 3
            turn = 3
            read 1 16 = -1
            low 1 = -250
            """);
        Runs.run("21, only the first 3000", """
            set 0 1
            shift 1 0 3000
            reckon 1 1 0 0
            print 1 2 = 3001
            turn = 3000
            feed 49 = false
            read 2 2 = -1
            shift 3 0 2999
            compare 2 3 = 0
            out 3000 = 49
            """);
    }
}
