/**
 * Sixteen registers of whole numbers, all between -2^8192 and 2^8192, a text to read them from, and a page to print
 * them on.
 */
public final class WholeNumbers {
    public static final int NONE = -1;

    private static final int REGISTERS = 16;
    private static final int MOST_BITS = 8192;
    private static final int MOST_SHIFT = 9000;
    private static final int MOST_POWER = 8192;
    private static final int MOST_BITS_BY_REST = 512;
    private static final int LEAST_BASE = 2;
    private static final int MOST_BASE = 36;
    private static final int LONGEST_TEXT = 3000;
    private static final int TEXT_TOO_LARGE = 3001;
    private static final int HYPHEN = 45;

    // 31 bits a limb: then a product of two limbs and all that is added to it stay below the sign of a long.
    private static final int LIMB_BITS = 31;
    private static final int LIMB_MASK = 0x7fffffff;
    // Enough for a product of two numbers of 8192 bits, and for a text of 3000 digits to the base 36.
    private static final int LIMBS = 540;

    private final Whole[] registers = new Whole[REGISTERS];
    // What a call reckons stands here until it is known to fit, so that a register may be both source and aim.
    private final Whole result = new Whole();
    private final Row left = new Row();
    private final Row right = new Row();
    private final Divider divider = new Divider();
    private final Powers powers = new Powers();
    private final Roots roots = new Roots();
    private final Divisors divisors = new Divisors();
    private final Text text = new Text();
    private final Page page = new Page();

    public WholeNumbers() {
        for (int r = 0; r < registers.length; r++) {
            registers[r] = new Whole();
        }
    }

    public void set(int r, long v) throws IllegalArgumentException {
        register(r).becomeLong(v);
    }

    public void move(int r, int a) throws IllegalArgumentException {
        Whole to = register(r);
        to.become(register(a));
    }

    public void reckon(int r, int a, int b, int by) throws IllegalArgumentException, UnsupportedOperationException {
        Whole to = register(r);
        Whole first = register(a);
        Whole second = register(b);
        checkRange(by, 0, 2);
        if (by == 2) {
            result.becomeProduct(first, second);
        } else {
            result.becomeSum(first, second, by == 1);
        }
        keepResult(to);
    }

    public void divide(int r, int a, int b, int by) throws IllegalArgumentException, ArithmeticException {
        Whole to = register(r);
        Whole whole = register(a);
        Whole part = register(b);
        checkRange(by, 0, 3);
        if (part.isZero()) {
            throw new ArithmeticException("divided by 0");
        }
        divider.run(whole.amount, part.amount);
        boolean apart = whole.below != part.below;
        // Only an exact quotient below 0 that is not whole differs when divided down and short.
        boolean further = by < 2 && apart && !divider.rest.isZero();
        if (by == 0 || by == 2) {
            divider.quotient.scale(1, further ? 1 : 0);
            to.becomeSigned(divider.quotient, apart);
        } else if (further) {
            left.become(part.amount);
            left.take(divider.rest);
            to.becomeSigned(left, part.below);
        } else {
            to.becomeSigned(divider.rest, whole.below);
        }
    }

    public void combine(int r, int a, int b, int by) throws IllegalArgumentException, UnsupportedOperationException {
        Whole to = register(r);
        Whole first = register(a);
        Whole second = register(b);
        checkRange(by, 0, 2);
        first.coreInto(left);
        second.coreInto(right);
        long firstChange = first.below ? LIMB_MASK : 0;
        long secondChange = second.below ? LIMB_MASK : 0;
        // What becomes of the bits without end tells whether the result is below 0.
        long change = combined(firstChange, secondChange, by);
        int limbs = Math.max(left.used, right.used);
        for (int i = 0; i < limbs; i++) {
            left.put(i, combined(left.at(i) ^ firstChange, right.at(i) ^ secondChange, by) ^ change);
        }
        left.trim();
        result.becomeCore(left, change != 0);
        keepResult(to);
    }

    public void shift(int r, int a, int n) throws IllegalArgumentException, UnsupportedOperationException {
        Whole to = register(r);
        Whole from = register(a);
        checkRange(n, -MOST_SHIFT, MOST_SHIFT);
        if (n < 0) {
            from.coreInto(left);
            left.lower(-n);
            to.becomeCore(left, from.below);
            return;
        }
        // A row has no room for what is much too large, so this is asked first.
        if (!from.isZero() && from.amount.bits() + n > MOST_BITS) {
            throw new UnsupportedOperationException("too large");
        }
        left.becomeRaised(from.amount, n);
        to.becomeSigned(left, from.below);
    }

    public void power(int r, int a, int n) throws IllegalArgumentException, UnsupportedOperationException {
        Whole to = register(r);
        Whole base = register(a);
        checkRange(n, 0, MOST_POWER);
        if (!powers.raise(base.amount, n)) {
            throw new UnsupportedOperationException("too large");
        }
        to.becomeSigned(powers.answer, base.below && n % 2 == 1);
    }

    public void root(int r, int a) throws IllegalArgumentException, ArithmeticException {
        Whole to = register(r);
        Whole square = register(a);
        if (square.below) {
            throw new ArithmeticException("the root of a number below 0");
        }
        roots.run(square.amount);
        to.becomeSigned(roots.answer, false);
    }

    public void common(int r, int a, int b) throws IllegalArgumentException {
        Whole to = register(r);
        Whole first = register(a);
        Whole second = register(b);
        divisors.run(first.amount, second.amount);
        to.becomeSigned(divisors.answer, false);
    }

    public void powerRest(int r, int a, int b, int m) throws IllegalArgumentException, ArithmeticException {
        Whole to = register(r);
        Whole base = register(a);
        Whole exponent = register(b);
        Whole modulus = register(m);
        exponent.coreInto(left);
        modulus.coreInto(right);
        if (left.bits() > MOST_BITS_BY_REST || right.bits() > MOST_BITS_BY_REST) {
            throw new IllegalArgumentException("more than 512 bits");
        }
        if (exponent.below || modulus.below || modulus.isZero()) {
            throw new ArithmeticException("power below 0, or modulus not above 0");
        }
        powers.raiseByRest(base, exponent.amount, modulus.amount);
        to.becomeSigned(powers.answer, false);
    }

    public int compare(int a, int b) throws IllegalArgumentException {
        Whole first = register(a);
        return first.against(register(b));
    }

    public long low(int a) throws IllegalArgumentException {
        Whole from = register(a);
        from.coreInto(left);
        long bits = left.at(0) | left.at(1) << LIMB_BITS | left.at(2) << 2 * LIMB_BITS;
        return from.below ? ~bits : bits;
    }

    public int length(int a) throws IllegalArgumentException {
        register(a).coreInto(left);
        return left.bits();
    }

    public boolean bit(int a, int i) throws IllegalArgumentException {
        Whole from = register(a);
        if (i < 0) {
            throw new IllegalArgumentException("no such bit");
        }
        from.coreInto(left);
        return left.hasOne(i) != from.below;
    }

    public int ones(int a) throws IllegalArgumentException {
        register(a).coreInto(left);
        return left.countOnes();
    }

    public boolean feed(int c) {
        return text.add(c);
    }

    public int read(int r, int base) throws IllegalArgumentException {
        Whole to = register(r);
        checkRange(base, LEAST_BASE, MOST_BASE);
        int answer = text.firstFlaw(base);
        if (answer == NONE) {
            text.valueInto(left, base);
            if (left.bits() > MOST_BITS) {
                answer = TEXT_TOO_LARGE;
            } else {
                to.becomeSigned(left, text.hasHyphen());
            }
        }
        text.clear();
        return answer;
    }

    public int print(int a, int base) throws IllegalArgumentException {
        Whole from = register(a);
        checkRange(base, LEAST_BASE, MOST_BASE);
        page.write(from, base);
        return page.count;
    }

    public int out(int i) {
        return page.character(i);
    }

    public int turn() {
        text.clear();
        int count = Math.min(page.count, LONGEST_TEXT);
        for (int i = 0; i < count; i++) {
            text.add(page.character(i));
        }
        return count;
    }

    private Whole register(int r) {
        if (r < 0 || r >= registers.length) {
            throw new IllegalArgumentException("no such register");
        }
        return registers[r];
    }

    private static void checkRange(int value, int least, int most) {
        if (value < least || value > most) {
            throw new IllegalArgumentException("out of its range");
        }
    }

    private void keepResult(Whole to) {
        if (result.amount.bits() > MOST_BITS) {
            throw new UnsupportedOperationException("too large");
        }
        to.become(result);
    }

    private static long combined(long a, long b, int by) {
        return by == 0 ? a & b : by == 1 ? a | b : a ^ b;
    }

    /** How many digits to the base 2 a number of 0 or more has, none for 0. */
    private static int bitsOf(int value) {
        return 32 - Integer.numberOfLeadingZeros(value);
    }

    /** A whole number of 0 or more in limbs, the lowest first; all limbs from used on are 0. */
    private static final class Row {
        private final int[] limbs = new int[LIMBS];
        int used;

        /** Limb i; as in any number, 0 stands behind the last one (and, for shifts, before the first). */
        long at(int i) {
            return i >= 0 && i < limbs.length ? limbs[i] : 0;
        }

        /** Keeps the lowest 31 bits of a value, of which the caller carries the others on. */
        void put(int i, long value) {
            if (i < 0 || i >= limbs.length) {
                return;
            }
            limbs[i] = (int) (value & LIMB_MASK);
            if (i >= used) {
                used = i + 1;
            }
        }

        /** To be called when the last limb put may be 0. */
        void trim() {
            while (used > 0 && at(used - 1) == 0) {
                used--;
            }
        }

        void clear() {
            int most = used;
            for (int i = 0; i < most; i++) {
                put(i, 0);
            }
            used = 0;
        }

        boolean isZero() {
            return used == 0;
        }

        int bits() {
            return used == 0 ? 0 : (used - 1) * LIMB_BITS + bitsOf((int) at(used - 1));
        }

        boolean hasOne(int bit) {
            return (at(bit / LIMB_BITS) >> bit % LIMB_BITS & 1) == 1;
        }

        int countOnes() {
            int count = 0;
            for (int i = 0; i < used; i++) {
                count += Integer.bitCount((int) at(i));
            }
            return count;
        }

        int against(Row other) {
            if (used != other.used) {
                return used < other.used ? -1 : 1;
            }
            for (int i = used - 1; i >= 0; i--) {
                if (at(i) != other.at(i)) {
                    return at(i) < other.at(i) ? -1 : 1;
                }
            }
            return 0;
        }

        void become(Row other) {
            int most = Math.max(used, other.used);
            for (int i = 0; i < most; i++) {
                put(i, other.at(i));
            }
            trim();
        }

        /** Takes the long as 64 bits without a sign. */
        void becomeLong(long bits) {
            clear();
            put(0, bits);
            put(1, bits >>> LIMB_BITS);
            put(2, bits >>> 2 * LIMB_BITS);
            trim();
        }

        void add(Row other) {
            int most = Math.max(used, other.used);
            long carry = 0;
            for (int i = 0; i <= most; i++) {
                carry += at(i) + other.at(i);
                put(i, carry);
                carry >>= LIMB_BITS;
            }
            trim();
        }

        /** Subtracts a number that is not above this one. */
        void take(Row other) {
            int most = used;
            long carry = 0;
            for (int i = 0; i < most; i++) {
                carry += at(i) - other.at(i);
                put(i, carry);
                carry >>= LIMB_BITS;
            }
            trim();
        }

        /** This times a factor of 0 or more, and the addend to that; what comes out must not be below 0. */
        void scale(int factor, int addend) {
            int most = used;
            long carry = addend;
            for (int i = 0; i <= most; i++) {
                carry += factor * at(i);
                put(i, carry);
                carry >>= LIMB_BITS;
            }
            trim();
        }

        /** Divides by a number above 0 and answers the rest. */
        int partBy(int divisor) {
            if (divisor <= 0) {
                return 0;
            }
            long rest = 0;
            for (int i = used - 1; i >= 0; i--) {
                rest = rest << LIMB_BITS | at(i);
                put(i, rest / divisor);
                rest %= divisor;
            }
            trim();
            return (int) rest;
        }

        /** Neither factor may be this row. */
        void becomeProduct(Row a, Row b) {
            clear();
            for (int i = 0; i < a.used; i++) {
                long factor = a.at(i);
                long carry = 0;
                for (int j = 0; j < b.used; j++) {
                    carry += at(i + j) + factor * b.at(j);
                    put(i + j, carry);
                    carry >>= LIMB_BITS;
                }
                put(i + b.used, carry);
            }
            trim();
        }

        /** This becomes a, another row, times 2^places. */
        void becomeRaised(Row a, int places) {
            clear();
            int whole = places / LIMB_BITS;
            int bits = places % LIMB_BITS;
            for (int i = 0; i <= a.used; i++) {
                long pair = a.at(i) << LIMB_BITS | a.at(i - 1);
                put(i + whole, pair << bits >>> LIMB_BITS);
            }
            trim();
        }

        /** Divides by 2^places and drops the rest. */
        void lower(int places) {
            int whole = places / LIMB_BITS;
            int bits = places % LIMB_BITS;
            int most = used;
            for (int i = 0; i < most; i++) {
                long pair = at(i + whole + 1) << LIMB_BITS | at(i + whole);
                put(i, pair >> bits);
            }
            trim();
        }

        /** This divided down by 2^places, which must leave no more than 62 bits. */
        long head(int places) {
            int whole = places / LIMB_BITS;
            int bits = places % LIMB_BITS;
            long pair = at(whole + 1) << LIMB_BITS | at(whole);
            return pair >> bits | at(whole + 2) << 2 * LIMB_BITS - bits;
        }
    }

    /** A whole number: its amount, and whether it is below 0 (0 is not). */
    private static final class Whole {
        final Row amount = new Row();
        boolean below;

        boolean isZero() {
            return amount.isZero();
        }

        void become(Whole other) {
            becomeSigned(other.amount, other.below);
        }

        void becomeLong(long v) {
            amount.becomeLong(v < 0 ? -v : v);
            below = v < 0;
        }

        void becomeSigned(Row newAmount, boolean newBelow) {
            amount.become(newAmount);
            below = newBelow && !amount.isZero();
        }

        /** Neither a nor b may be this number. */
        void becomeSum(Whole a, Whole b, boolean minus) {
            boolean secondBelow = b.below != minus;
            if (a.below == secondBelow) {
                becomeSigned(a.amount, a.below);
                amount.add(b.amount);
            } else if (a.amount.against(b.amount) >= 0) {
                amount.become(a.amount);
                amount.take(b.amount);
                below = a.below && !amount.isZero();
            } else {
                becomeSigned(b.amount, secondBelow);
                amount.take(a.amount);
            }
        }

        /** Neither a nor b may be this number. */
        void becomeProduct(Whole a, Whole b) {
            amount.becomeProduct(a.amount, b.amount);
            below = a.below != b.below && !amount.isZero();
        }

        int against(Whole other) {
            if (below != other.below) {
                return below ? -1 : 1;
            }
            int order = amount.against(other.amount);
            return below ? -order : order;
        }

        /** The core of n is n, or -1 less n below 0: its bits are those of n, each changed below 0. */
        void coreInto(Row core) {
            core.become(amount);
            if (below) {
                core.scale(1, -1);
            }
        }

        void becomeCore(Row core, boolean newBelow) {
            amount.become(core);
            below = newBelow;
            if (below) {
                amount.scale(1, 1);
            }
        }
    }

    /** Long division, a limb of the quotient at a time. */
    private static final class Divider {
        final Row quotient = new Row();
        final Row rest = new Row();
        private final Row scaled = new Row();

        /** Divides a by b, which is not 0; neither may be a row of this divider. */
        void run(Row a, Row b) {
            // Only with a highest limb of all 31 bits does the estimate of a limb come near enough.
            int places = b.used * LIMB_BITS - b.bits();
            quotient.clear();
            rest.becomeRaised(a, places);
            scaled.becomeRaised(b, places);
            for (int place = rest.used - scaled.used; place >= 0; place--) {
                long limb = estimate(place);
                if (!takeScaled(limb, place)) {
                    limb--;
                    putBack(place);
                }
                quotient.put(place, limb);
            }
            quotient.trim();
            rest.lower(places);
        }

        /** The limb of the quotient at a place, or one more: what the highest limbs of both tell. */
        private long estimate(int place) {
            int behind = place + scaled.used;
            long top = scaled.at(scaled.used - 1);
            long second = scaled.at(scaled.used - 2);
            if (top == 0) {
                return 0;
            }
            long pair = rest.at(behind) << LIMB_BITS | rest.at(behind - 1);
            long limb = Math.min(pair / top, LIMB_MASK);
            long over = pair - limb * top;
            // So far it may be two too many; the next limb of both then shows that it is too many.
            if (over <= LIMB_MASK && limb * second > (over << LIMB_BITS | rest.at(behind - 2))) {
                limb--;
            }
            return limb;
        }

        /** False when the rest was too small for that, and is now below 0 in the limbs that matter. */
        private boolean takeScaled(long limb, int place) {
            long carry = 0;
            for (int i = 0; i <= scaled.used; i++) {
                carry += rest.at(place + i) - limb * scaled.at(i);
                rest.put(place + i, carry);
                carry >>= LIMB_BITS;
            }
            return carry == 0;
        }

        private void putBack(int place) {
            long carry = 0;
            for (int i = 0; i <= scaled.used; i++) {
                carry += rest.at(place + i) + scaled.at(i);
                rest.put(place + i, carry);
                carry >>= LIMB_BITS;
            }
        }
    }

    /** Powers, from the highest bit of the exponent on: so nothing on the way is larger than the power itself. */
    private static final class Powers {
        final Row answer = new Row();
        private final Row base = new Row();
        private final Row product = new Row();
        private final Divider divider = new Divider();

        /** False when the power is too large. */
        boolean raise(Row a, int n) {
            answer.becomeLong(1);
            for (int i = bitsOf(n) - 1; i >= 0; i--) {
                if (!multiply(answer)) {
                    return false;
                }
                if ((n >> i & 1) == 1 && !multiply(a)) {
                    return false;
                }
            }
            return true;
        }

        private boolean multiply(Row factor) {
            product.becomeProduct(answer, factor);
            if (product.bits() > MOST_BITS) {
                return false;
            }
            answer.become(product);
            return true;
        }

        /** The modulus is not 0. */
        void raiseByRest(Whole a, Row exponent, Row modulus) {
            divider.run(a.amount, modulus);
            base.become(divider.rest);
            if (a.below && !base.isZero()) {
                base.become(modulus);
                base.take(divider.rest);
            }
            answer.becomeLong(1);
            divider.run(answer, modulus);
            answer.become(divider.rest);
            for (int i = exponent.bits() - 1; i >= 0; i--) {
                multiplyByRest(answer, modulus);
                if (exponent.hasOne(i)) {
                    multiplyByRest(base, modulus);
                }
            }
        }

        private void multiplyByRest(Row factor, Row modulus) {
            product.becomeProduct(answer, factor);
            divider.run(product, modulus);
            answer.become(divider.rest);
        }
    }

    /** Square roots by Newton's way: from a guess that is not below the root, guesses fall until it is reached. */
    private static final class Roots {
        private static final int MOST_GUESSES = 1000;

        final Row answer = new Row();
        private final Row next = new Row();
        private final Divider divider = new Divider();

        void run(Row square) {
            next.becomeLong(1);
            answer.becomeRaised(next, (square.bits() + 1) / 2);
            for (int guess = 0; guess < MOST_GUESSES && !answer.isZero(); guess++) {
                divider.run(square, answer);
                next.become(divider.quotient);
                next.add(answer);
                next.lower(1);
                if (next.against(answer) >= 0) {
                    return;
                }
                answer.become(next);
            }
        }
    }

    /**
     * Greatest common divisors by Euclid's way, with Lehmer's short cut: the steps that the highest bits alone decide
     * are taken together.
     */
    private static final class Divisors {
        private static final int MOST_ROUNDS = 100_000;
        private static final int HEAD_BITS = 2 * LIMB_BITS;
        private static final int MOST_STEPS = 100;

        final Row answer = new Row();
        private final Row smaller = new Row();
        private final Divider divider = new Divider();
        // How often answer and smaller go into what they become together, as far as the steps are decided.
        private long answerByAnswer;
        private long answerBySmaller;
        private long smallerByAnswer;
        private long smallerBySmaller;

        void run(Row a, Row b) {
            boolean turned = a.against(b) < 0;
            answer.become(turned ? b : a);
            smaller.become(turned ? a : b);
            for (int round = 0; round < MOST_ROUNDS && !smaller.isZero(); round++) {
                decideSteps();
                if (answerBySmaller == 0) {
                    takeOneStep();
                } else {
                    takeDecidedSteps();
                }
            }
        }

        private void takeOneStep() {
            divider.run(answer, smaller);
            answer.become(smaller);
            smaller.become(divider.rest);
        }

        /** Goes on while the least and the greatest numbers with these heads have the same quotient. */
        private void decideSteps() {
            int places = Math.max(0, answer.bits() - HEAD_BITS);
            long head = answer.head(places);
            long smallerHead = smaller.head(places);
            answerByAnswer = 1;
            answerBySmaller = 0;
            smallerByAnswer = 0;
            smallerBySmaller = 1;
            for (int step = 0; step < MOST_STEPS; step++) {
                long least = smallerHead + smallerByAnswer;
                long other = smallerHead + smallerBySmaller;
                if (least <= 0 || other <= 0) {
                    return;
                }
                long quotient = (head + answerByAnswer) / least;
                if (quotient != (head + answerBySmaller) / other || !stepFits(quotient)) {
                    return;
                }
                long rest = head - quotient * smallerHead;
                head = smallerHead;
                smallerHead = rest;
            }
        }

        /** Takes a step into the four factors; false, and none of it, when they would no longer fit a limb. */
        private boolean stepFits(long quotient) {
            if (quotient > LIMB_MASK) {
                return false;
            }
            long byAnswer = answerByAnswer - quotient * smallerByAnswer;
            long bySmaller = answerBySmaller - quotient * smallerBySmaller;
            if (Math.abs(byAnswer) > LIMB_MASK || Math.abs(bySmaller) > LIMB_MASK) {
                return false;
            }
            answerByAnswer = smallerByAnswer;
            answerBySmaller = smallerBySmaller;
            smallerByAnswer = byAnswer;
            smallerBySmaller = bySmaller;
            return true;
        }

        private void takeDecidedSteps() {
            int limbs = answer.used;
            long answerCarry = 0;
            long smallerCarry = 0;
            for (int i = 0; i < limbs; i++) {
                long one = answer.at(i);
                long two = smaller.at(i);
                answerCarry += answerByAnswer * one + answerBySmaller * two;
                smallerCarry += smallerByAnswer * one + smallerBySmaller * two;
                answer.put(i, answerCarry);
                smaller.put(i, smallerCarry);
                answerCarry >>= LIMB_BITS;
                smallerCarry >>= LIMB_BITS;
            }
            answer.trim();
            smaller.trim();
        }
    }

    /** The characters fed and not yet read, as they came. */
    private static final class Text {
        private final int[] characters = new int[LONGEST_TEXT];
        private int count;

        boolean add(int c) {
            if (count < 0 || count >= characters.length) {
                return false;
            }
            characters[count] = c;
            count++;
            return true;
        }

        void clear() {
            count = 0;
        }

        boolean hasHyphen() {
            return count > 0 && characters[0] == HYPHEN;
        }

        /** The place from which on this is no printed form, the count when it ends too early, NONE when it is one. */
        int firstFlaw(int base) {
            int start = hasHyphen() ? 1 : 0;
            for (int i = start; i < count; i++) {
                if (digit(i) >= base) {
                    return i;
                }
            }
            return start == count ? count : NONE;
        }

        /** The amount of what stands here, which is a printed form; as many digits at once as fit a limb. */
        void valueInto(Row row, int base) {
            row.clear();
            int factor = 1;
            int digits = 0;
            for (int i = hasHyphen() ? 1 : 0; i < count; i++) {
                factor *= base;
                digits = digits * base + digit(i);
                if ((long) factor * base > LIMB_MASK) {
                    row.scale(factor, digits);
                    factor = 1;
                    digits = 0;
                }
            }
            row.scale(factor, digits);
        }

        /** A number too large for every base when there is no digit at that place. */
        private int digit(int i) {
            int c = i >= 0 && i < characters.length ? characters[i] : NONE;
            if (c >= '0' && c <= '9') {
                return c - '0';
            }
            if (c >= 'A' && c <= 'Z') {
                return c - 'A' + 10;
            }
            return c >= 'a' && c <= 'z' ? c - 'a' + 10 : MOST_BASE;
        }
    }

    /** What was printed last, from its last character to its first, as the digits come out. */
    private static final class Page {
        private final int[] backwards = new int[MOST_BITS + 1];
        private final Row left = new Row();
        int count;

        /** The base is 2 .. 36. */
        void write(Whole number, int base) {
            count = 0;
            left.become(number.amount);
            if (left.isZero()) {
                add('0');
            }
            int digits = 0;
            int group = 1;
            for (int i = 0; i < LIMB_BITS && (long) group * base <= LIMB_MASK; i++) {
                group *= base;
                digits++;
            }
            for (int round = 0; round < backwards.length && !left.isZero(); round++) {
                addGroup(left.partBy(group), base, digits);
            }
            if (number.below) {
                add(HYPHEN);
            }
        }

        /** Writes the digits of a group; of the highest one only those that the number has. */
        private void addGroup(int group, int base, int digits) {
            if (base < LEAST_BASE) {
                return;
            }
            int more = group;
            for (int i = 0; i < digits && (more > 0 || !left.isZero()); i++) {
                int digit = more % base;
                add(digit < 10 ? '0' + digit : 'A' + digit - 10);
                more /= base;
            }
        }

        private void add(int c) {
            if (count >= 0 && count < backwards.length) {
                backwards[count] = c;
                count++;
            }
        }

        int character(int i) {
            int place = count - 1 - i;
            return i >= 0 && place >= 0 && place < backwards.length ? backwards[place] : NONE;
        }
    }
}
