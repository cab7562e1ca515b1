import java.math.BigInteger;

/** The document once more, in the plainest way, on the library's numbers: what WholeNumbers is compared with. */
public final class Model {
    private static final BigInteger BOUND = BigInteger.ONE.shiftLeft(8192);

    private final BigInteger[] registers = new BigInteger[16];
    private String text = "";
    private String printed = "";

    public Model() {
        java.util.Arrays.fill(registers, BigInteger.ZERO);
    }

    public void set(int r, long v) {
        check(r);
        registers[r] = BigInteger.valueOf(v);
    }

    public void move(int r, int a) {
        check(r, a);
        registers[r] = registers[a];
    }

    public void reckon(int r, int a, int b, int by) {
        check(r, a, b);
        need(by >= 0 && by <= 2);
        BigInteger x = registers[a];
        BigInteger y = registers[b];
        keep(r, by == 0 ? x.add(y) : by == 1 ? x.subtract(y) : x.multiply(y));
    }

    public void divide(int r, int a, int b, int by) {
        check(r, a, b);
        need(by >= 0 && by <= 3);
        BigInteger y = registers[b];
        if (y.signum() == 0) {
            throw new ArithmeticException();
        }
        BigInteger[] parts = registers[a].divideAndRemainder(y);
        if (by < 2 && parts[1].signum() != 0 && parts[1].signum() != y.signum()) {
            parts[0] = parts[0].subtract(BigInteger.ONE);
            parts[1] = parts[1].add(y);
        }
        registers[r] = parts[by % 2];
    }

    public void combine(int r, int a, int b, int by) {
        check(r, a, b);
        need(by >= 0 && by <= 2);
        BigInteger x = registers[a];
        BigInteger y = registers[b];
        keep(r, by == 0 ? x.and(y) : by == 1 ? x.or(y) : x.xor(y));
    }

    public void shift(int r, int a, int n) {
        check(r, a);
        need(n >= -9000 && n <= 9000);
        keep(r, registers[a].shiftLeft(n));
    }

    public void power(int r, int a, int n) {
        check(r, a);
        need(n >= 0 && n <= 8192);
        BigInteger x = registers[a];
        if (x.abs().bitLength() > 1 && (long) (x.abs().bitLength() - 1) * n >= 8192) {
            throw new UnsupportedOperationException();
        }
        keep(r, x.pow(n));
    }

    public void root(int r, int a) {
        check(r, a);
        if (registers[a].signum() < 0) {
            throw new ArithmeticException();
        }
        registers[r] = registers[a].sqrt();
    }

    public void common(int r, int a, int b) {
        check(r, a, b);
        registers[r] = registers[a].gcd(registers[b]);
    }

    public void powerRest(int r, int a, int b, int m) {
        check(r, a, b, m);
        need(registers[b].bitLength() <= 512 && registers[m].bitLength() <= 512);
        if (registers[b].signum() < 0 || registers[m].signum() <= 0) {
            throw new ArithmeticException();
        }
        registers[r] = registers[a].modPow(registers[b], registers[m]);
    }

    public int compare(int a, int b) {
        check(a, b);
        return registers[a].compareTo(registers[b]);
    }

    public long low(int a) {
        check(a);
        return registers[a].longValue();
    }

    public int length(int a) {
        check(a);
        return registers[a].bitLength();
    }

    public boolean bit(int a, int i) {
        check(a);
        need(i >= 0);
        return registers[a].testBit(i);
    }

    public int ones(int a) {
        check(a);
        return registers[a].bitCount();
    }

    public boolean feed(int c) {
        if (text.length() == 3000) {
            return false;
        }
        // What stands for any other character is neither a digit nor a hyphen.
        text += c >= 0 && c < 128 ? (char) c : '?';
        return true;
    }

    public int read(int r, int base) {
        check(r);
        need(base >= 2 && base <= 36);
        String all = text;
        text = "";
        int start = all.startsWith("-") ? 1 : 0;
        for (int i = start; i < all.length(); i++) {
            if (Character.digit(all.charAt(i), base) < 0) {
                return i;
            }
        }
        if (start == all.length()) {
            return start;
        }
        BigInteger value = new BigInteger(all, base);
        if (value.abs().compareTo(BOUND) >= 0) {
            return 3001;
        }
        registers[r] = value;
        return -1;
    }

    public int print(int a, int base) {
        check(a);
        need(base >= 2 && base <= 36);
        printed = registers[a].toString(base).toUpperCase(java.util.Locale.ROOT);
        return printed.length();
    }

    public int out(int i) {
        return i >= 0 && i < printed.length() ? printed.charAt(i) : -1;
    }

    public int turn() {
        text = printed.substring(0, Math.min(3000, printed.length()));
        return text.length();
    }

    /** Not of the document: a register as it stands, for tests that want to see all of it. */
    public BigInteger value(int r) {
        return registers[r];
    }

    private void keep(int r, BigInteger value) {
        if (value.abs().compareTo(BOUND) >= 0) {
            throw new UnsupportedOperationException();
        }
        registers[r] = value;
    }

    private static void check(int... named) {
        for (int r : named) {
            need(r >= 0 && r < 16);
        }
    }

    private static void need(boolean fine) {
        if (!fine) {
            throw new IllegalArgumentException();
        }
    }
}
