import java.math.BigInteger;

/**
 * Runs of calls drawn from a row of numbers that is always the same, each call compared with the model. Every few
 * calls a register is seen whole, 64 bits at a time; so what one call spoils shows in the run itself.
 */
public final class RandomRunsTest {
    private static final int RUNS = 1500;
    /** Looking through a register of 8192 bits takes so many calls. */
    private static final int CALLS_TO_SEE_ONE = 2 * 8192 / 64 + 2;
    /** The last register is kept free for looking through others. */
    private static final int SPARE = 15;
    private static final int[] ODD_REGISTERS = {-1, 16, Integer.MIN_VALUE, Integer.MAX_VALUE};
    private static final String ODD_CHARACTERS = "-/:@[`{ +.~";

    private long state;
    private final Pair pair = new Pair();

    private RandomRunsTest(long seed) {
        state = seed;
    }

    public static void main(String[] args) {
        for (int run = 1; run <= RUNS; run++) {
            try {
                new RandomRunsTest(run).run();
            } catch (IllegalStateException e) {
                System.out.println("RandomRunsTest: run " + run + ": " + e.getMessage());
                System.exit(1);
            }
        }
        System.out.println("RandomRunsTest: all answers are as due");
    }

    private void run() {
        for (int r = 0; r < 6; r++) {
            makeNumber(r);
        }
        while (pair.callsLeft() > CALLS_TO_SEE_ONE + 40) {
            step();
        }
        seeWhole(upTo(SPARE));
    }

    /** Numbers of all lengths, with long rows of equal bits among them, where carries run far. */
    private void makeNumber(int r) {
        pair.call("set", r, draw() >> upTo(63));
        switch (upTo(5)) {
            case 0:
                pair.call("shift", r, r, upTo(8200));
                break;
            case 1:
                pair.call("power", r, r, 1 + upTo(200));
                break;
            case 2:
                pair.call("set", SPARE, (long) upTo(5) - 2);
                pair.call("shift", r, r, upTo(4000));
                pair.call("reckon", r, r, SPARE, 0);
                break;
            case 3:
                for (int i = upTo(8); i > 0; i--) {
                    pair.call("reckon", r, r, r, 2);
                    pair.call("set", SPARE, draw());
                    pair.call("reckon", r, r, SPARE, 0);
                }
                break;
            default:
        }
    }

    private void step() {
        int r = register();
        int a = register();
        int b = register();
        switch (upTo(19)) {
            case 0:
                makeNumber(upTo(SPARE));
                break;
            case 1:
                pair.call("move", r, a);
                break;
            case 2:
                pair.call("reckon", r, a, b, upTo(30) == 0 ? 3 : upTo(3));
                break;
            case 3:
            case 4:
                pair.call("divide", r, a, b, upTo(30) == 0 ? 4 : upTo(4));
                break;
            case 5:
                pair.call("combine", r, a, b, upTo(30) == 0 ? -1 : upTo(3));
                break;
            case 6:
                pair.call("shift", r, a, upTo(10) == 0 ? upTo(18100) - 9050 : upTo(500) - 400);
                break;
            case 7:
                pair.call("power", r, a, upTo(10) == 0 ? upTo(8200) - 4 : upTo(6));
                break;
            case 8:
                pair.call("root", r, a);
                break;
            case 9:
                pair.call("common", r, a, b);
                break;
            case 10:
                powerRest();
                break;
            case 11:
                pair.call("compare", a, b);
                break;
            case 12:
                pair.call("low", a);
                break;
            case 13:
                pair.call("length", a);
                break;
            case 14:
                pair.call("bit", a, upTo(20) == 0 ? (int) draw() : upTo(8200));
                break;
            case 15:
                pair.call("ones", a);
                break;
            case 16:
                fromText();
                break;
            case 17:
                print();
                break;
            default:
                nearlyEqual();
        }
    }

    private void powerRest() {
        int exponent = upTo(SPARE);
        int modulus = upTo(SPARE);
        if (upTo(4) > 0) {
            shorten(exponent);
            shorten(modulus);
        }
        pair.call("powerRest", register(), register(), exponent, modulus);
    }

    /** Brings a register to about 512 bits, the most that powerRest takes. */
    private void shorten(int r) {
        int bits = pair.model.length(r);
        pair.call("shift", r, r, 511 + upTo(3) - Math.max(bits, 511));
        if (upTo(4) > 0) {
            pair.call("root", r, r);
        }
    }

    /** A number and itself with a little more: what is left of one by the other has few bits, or nearly all. */
    private void nearlyEqual() {
        int a = upTo(SPARE);
        int b = upTo(SPARE);
        pair.call("set", SPARE, (long) upTo(3) - 1);
        pair.call("shift", SPARE, SPARE, upTo(8200));
        pair.call("reckon", b, a, SPARE, upTo(2));
        pair.call("compare", a, b);
        pair.call("divide", upTo(SPARE), a, b, upTo(4));
    }

    private void fromText() {
        int base = upTo(40) - 1;
        for (int i = upTo(12); i > 0; i--) {
            int digit = upTo(Math.max(1, base));
            int c = digit < 10 ? '0' + digit : (upTo(2) == 0 ? 'A' : 'a') + digit - 10;
            if (upTo(60) == 0) {
                c = ODD_CHARACTERS.charAt(upTo(ODD_CHARACTERS.length()));
            }
            pair.call("feed", upTo(80) == 0 ? (int) draw() : c);
        }
        pair.call("read", register(), base);
    }

    private void print() {
        int base = upTo(40);
        int count = Math.max(0, number(pair.call("print", register(), base)));
        pair.call("out", 0);
        pair.call("out", upTo(count + 1));
        pair.call("out", count - 1);
        pair.call("out", count);
        if (upTo(2) == 0) {
            pair.call("turn");
            if (upTo(3) == 0) {
                pair.call("feed", '0' + upTo(12));
            }
            pair.call("read", register(), upTo(3) == 0 ? upTo(40) : base);
        }
    }

    private void seeWhole(int r) {
        int bits = pair.model.length(r);
        for (int place = 0; place <= bits; place += 64) {
            pair.call("shift", SPARE, r, -place);
            pair.call("low", SPARE);
        }
    }

    private static int number(String answer) {
        return answer.startsWith("throws.") ? 0 : new BigInteger(answer).intValue();
    }

    private int register() {
        return upTo(60) == 0 ? ODD_REGISTERS[upTo(ODD_REGISTERS.length)] : upTo(SPARE);
    }

    private int upTo(int bound) {
        return (int) Math.floorMod(draw(), (long) bound);
    }

    /** Knuth's MMIX row; its low bits alone are too regular, so the high ones are mixed in. */
    private long draw() {
        state = state * 6364136223846793005L + 1442695040888963407L;
        long mixed = (state ^ state >>> 32) * 0x9E3779B97F4A7C15L;
        return mixed ^ mixed >>> 29;
    }
}
