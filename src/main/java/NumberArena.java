import java.util.Arrays;

/**
 * Whole numbers of up to 960 bits in runs of one row of cells, arithmetic on them whose
 * temporaries are taken in the same row, and Pratt certificates of primes. The document
 * shared/DOC.md tells what each call answers; words in capitals are its terms.
 */
public final class NumberArena {
    public static final int NONE = -1;

    private static final int BAD_HANDLE = -2;
    private static final int BAD_ARG = -3;
    private static final int NO_ROOM = -4;
    private static final int NEGATIVE = -5;
    private static final int ZERO = -6;
    private static final int ALIAS = -7;
    private static final int TOO_LONG = -8;
    private static final int FULL = -9;

    private static final int VALID = 0;
    private static final int INVALID = 1;
    private static final int MALFORMED = 2;

    private static final int LIMB_BITS = 15;
    private static final int HIGHEST_LIMB = 32767;
    private static final int MOST_LIMBS = 64;
    private static final int MOST_BITS = 960;
    private static final int MOST_NODES_OPEN = 12;

    private final Cells cells;
    private final Calculator calculator;
    private final Tape tape;
    private final Digits digits;
    private final Certificate certificate;
    private final Prover prover;
    private final Row first;
    private final Row second;
    private final Row third;
    private int faultPlace;

    public NumberArena(int handles, int cells, int words) {
        int wordCount = nearest(words, 8, 400);
        this.cells = new Cells(nearest(handles, 1, 24), nearest(cells, 16, 800));
        this.calculator = new Calculator();
        this.tape = new Tape();
        this.digits = new Digits();
        this.certificate = new Certificate(wordCount);
        this.prover = new Prover(wordCount);
        this.first = new Row();
        this.second = new Row();
        this.third = new Row();
        this.faultPlace = NONE;
    }

    private static int nearest(int value, int least, int most) {
        return Math.max(least, Math.min(most, value));
    }

    private static boolean isRoom(int room) {
        return room >= 1 && room <= MOST_LIMBS;
    }

    private static boolean isLimb(int value) {
        return value >= 0 && value <= HIGHEST_LIMB;
    }

    private static boolean isBase(int base) {
        return base >= 2 && base <= 36;
    }

    public int alloc(int room) {
        if (!isRoom(room)) {
            return BAD_ARG;
        }
        int h = cells.leastFree();
        if (h == NONE) {
            return FULL;
        }
        first.trim(0);
        return cells.giveRun(h, room, first) ? h : NO_ROOM;
    }

    public int release(int h) {
        if (!cells.isLive(h)) {
            return BAD_HANDLE;
        }
        cells.free(h);
        return 0;
    }

    public int resize(int h, int room) {
        if (!cells.isLive(h)) {
            return BAD_HANDLE;
        }
        if (!isRoom(room) || room < cells.lengths[h]) {
            return BAD_ARG;
        }
        if (room == cells.rooms[h]) {
            return 0;
        }
        cells.read(h, first);
        return cells.giveRun(h, room, first) ? 0 : NO_ROOM;
    }

    public int setLimb(int h, int i, int w) {
        if (!cells.isLive(h)) {
            return BAD_HANDLE;
        }
        if (i < 0 || i >= cells.rooms[h] || !isLimb(w)) {
            return BAD_ARG;
        }
        return cells.writeLimb(h, i, w);
    }

    public int limb(int h, int i) {
        if (!cells.isLive(h)) {
            return BAD_HANDLE;
        }
        return i < 0 ? NONE : cells.limbOf(h, i);
    }

    public int look(int h, int what) {
        if (!cells.isLive(h)) {
            return BAD_HANDLE;
        }
        switch (what) {
            case 0:
                return cells.lengths[h];
            case 1:
                return cells.rooms[h];
            case 2:
                return cells.places[h];
            case 3:
                cells.read(h, first);
                return first.bits();
            default:
                return NONE;
        }
    }

    public int about(int what) {
        switch (what) {
            case 0:
                return cells.usedCells();
            case 1:
                return cells.highestEnd();
            case 2:
                return cells.slides;
            case 3:
                return cells.liveHandles();
            case 4:
                return certificate.count;
            case 5:
                return cells.handles;
            case 6:
                return cells.limbs.length;
            case 7:
                return certificate.words.length;
            case 8:
                return tape.count;
            default:
                return NONE;
        }
    }

    public int cell(int i) {
        return cells.limbIn(i);
    }

    public int add(int d, int a, int b) {
        if (!cells.areLive(d, a, b)) {
            return BAD_HANDLE;
        }
        cells.read(a, first);
        cells.read(b, second);
        Calculator.sum(third, first, second);
        return cells.come(d, third);
    }

    public int sub(int d, int a, int b) {
        if (!cells.areLive(d, a, b)) {
            return BAD_HANDLE;
        }
        cells.read(a, first);
        cells.read(b, second);
        if (Calculator.order(first, second) < 0) {
            return NEGATIVE;
        }
        Calculator.difference(third, first, second);
        return cells.come(d, third);
    }

    public int mul(int d, int a, int b) {
        if (!cells.areLive(d, a, b)) {
            return BAD_HANDLE;
        }
        int la = cells.lengths[a];
        int lb = cells.lengths[b];
        if (la > 0 && lb > 0 && la + lb > MOST_LIMBS) {
            return TOO_LONG;
        }
        if (!cells.takeAhead(la + lb)) {
            return NO_ROOM;
        }
        cells.read(a, first);
        cells.read(b, second);
        Calculator.product(third, first, second);
        return cells.come(d, third);
    }

    public int divmod(int q, int r, int a, int b) {
        if (!isLiveOrNone(q) || !isLiveOrNone(r) || !cells.isLive(a) || !cells.isLive(b)) {
            return BAD_HANDLE;
        }
        int la = cells.lengths[a];
        int lb = cells.lengths[b];
        if (lb == 0) {
            return ZERO;
        }
        if (q == r && q != NONE) {
            return ALIAS;
        }
        if (!cells.takeAhead(la + 1) || !cells.takeAhead(lb) || !cells.takeAhead(la - lb + 1)) {
            return NO_ROOM;
        }
        cells.read(a, first);
        cells.read(b, second);
        calculator.divide(first, second);
        return bringBoth(q, r);
    }

    private boolean isLiveOrNone(int h) {
        return h == NONE || cells.isLive(h);
    }

    // Both runs are taken before either number is written: a refusal must leave both as they were.
    private int bringBoth(int q, int r) {
        Row quotient = calculator.quotient;
        Row rest = calculator.rest;
        int quotientRun = q == NONE ? NONE : cells.runFor(q, quotient.length);
        if (quotientRun == NO_ROOM) {
            return NO_ROOM;
        }
        int restRun = r == NONE ? NONE : cells.runFor(r, rest.length);
        if (restRun == NO_ROOM) {
            return NO_ROOM;
        }
        if (q != NONE) {
            cells.settle(q, quotientRun, quotient);
        }
        if (r != NONE) {
            cells.settle(r, restRun, rest);
        }
        cells.dropTaken();
        return quotient.length;
    }

    public int powmod(int d, int a, int e, int m) {
        if (!cells.areLive(d, a, e) || !cells.isLive(m)) {
            return BAD_HANDLE;
        }
        int la = cells.lengths[a];
        int lm = cells.lengths[m];
        if (lm == 0) {
            return ZERO;
        }
        int work = Math.max(la, 2 * lm) + 1;
        if (!cells.takeAhead(lm) || !cells.takeAhead(lm) || !cells.takeAhead(work)) {
            return NO_ROOM;
        }
        cells.read(a, first);
        cells.read(e, second);
        cells.read(m, third);
        calculator.raise(first, second, third);
        return cells.come(d, calculator.result);
    }

    public int gcd(int d, int a, int b) {
        if (!cells.areLive(d, a, b)) {
            return BAD_HANDLE;
        }
        if (!cells.takeAhead(2 * Math.max(cells.lengths[a], cells.lengths[b]))) {
            return NO_ROOM;
        }
        cells.read(a, first);
        cells.read(b, second);
        calculator.commonDivisor(first, second);
        return cells.come(d, calculator.result);
    }

    public int root(int d, int a) {
        if (!cells.areLive(d, a, a)) {
            return BAD_HANDLE;
        }
        if (!cells.takeAhead(3 * (cells.lengths[a] + 1))) {
            return NO_ROOM;
        }
        cells.read(a, first);
        calculator.squareRoot(first);
        return cells.come(d, calculator.result);
    }

    public int shift(int d, int a, int n) {
        if (!cells.areLive(d, a, a)) {
            return BAD_HANDLE;
        }
        if (n < -MOST_BITS || n > MOST_BITS) {
            return BAD_ARG;
        }
        cells.read(a, first);
        if (n < 0) {
            Calculator.shiftDown(second, first, -n);
        } else {
            Calculator.shiftUp(second, first, n);
        }
        return cells.come(d, second);
    }

    public int compare(int a, int b) {
        if (!cells.areLive(a, b, b)) {
            return BAD_HANDLE;
        }
        cells.read(a, first);
        cells.read(b, second);
        return Calculator.order(first, second) + 1;
    }

    public int jacobi(int a, int m) {
        if (!cells.areLive(a, m, m)) {
            return BAD_HANDLE;
        }
        if (cells.limbOf(m, 0) % 2 == 0) {
            return BAD_ARG;
        }
        if (!cells.takeAhead(cells.lengths[a]) || !cells.takeAhead(cells.lengths[m])) {
            return NO_ROOM;
        }
        cells.dropTaken();
        cells.read(a, first);
        cells.read(m, second);
        return calculator.jacobiSymbol(first, second) + 1;
    }

    public int feed(int a, int b, int c, int d, int e) {
        if (!tape.hasSpace(20)) {
            return NONE;
        }
        tape.putBytesOf(a);
        tape.putBytesOf(b);
        tape.putBytesOf(c);
        tape.putBytesOf(d);
        tape.putBytesOf(e);
        return tape.count;
    }

    public boolean end(int n) {
        if (n < 0 || n > tape.count) {
            return false;
        }
        tape.count = n;
        return true;
    }

    public int number(int d, int base) {
        faultPlace = NONE;
        if (!cells.isLive(d)) {
            return BAD_HANDLE;
        }
        if (!isBase(base)) {
            return BAD_ARG;
        }
        int digitCount = tape.digitsAhead(base);
        if (digitCount == 0 || digitCount < tape.count) {
            faultPlace = digitCount;
            tape.count = 0;
            return NONE;
        }
        tape.readNumber(first, base);
        tape.count = 0;
        return cells.come(d, first);
    }

    public int fault() {
        return faultPlace;
    }

    public int text(int a, int base) {
        if (!cells.isLive(a)) {
            return BAD_HANDLE;
        }
        if (!isBase(base)) {
            return BAD_ARG;
        }
        cells.read(a, first);
        digits.write(first, base);
        return digits.count;
    }

    public int out(int i) {
        return digits.byteAt(i);
    }

    public int word(int w) {
        if (!isLimb(w)) {
            return BAD_ARG;
        }
        return certificate.append(w) ? certificate.count : FULL;
    }

    public int told(int i) {
        return certificate.wordAt(i);
    }

    public int clear() {
        int before = certificate.count;
        certificate.count = 0;
        return before;
    }

    public int check(int h) {
        if (!cells.isLive(h)) {
            return BAD_HANDLE;
        }
        int answer = MALFORMED;
        if (certificate.isOneNode()) {
            cells.slideTogether();
            if (cells.hasSpace(6 * cells.lengths[h] + 6)) {
                cells.read(h, first);
                answer = certificate.isGoodFor(first, calculator) ? VALID : INVALID;
            } else {
                answer = NO_ROOM;
            }
        }
        certificate.count = 0;
        return answer;
    }

    public int prove(int h) {
        if (!cells.isLive(h)) {
            return BAD_HANDLE;
        }
        if (cells.lengths[h] > 2) {
            return BAD_ARG;
        }
        int p = cells.limbOf(h, 0) + (cells.limbOf(h, 1) << LIMB_BITS);
        if (!Prover.isPrime(p)) {
            return 0;
        }
        if (!prover.write(p)) {
            return FULL;
        }
        certificate.copyWords(prover.draft, prover.count);
        return certificate.count;
    }

    /**
     * The row of cells, and the runs in it. Run h is handle h's; the runs behind those of the
     * handles are what the call that goes on has taken. A run with no room is not there.
     */
    private static final class Cells {
        // divmod takes the most: three runs ahead, one for the quotient, one for the rest.
        private static final int MOST_TAKEN = 5;

        final int handles;
        final int[] limbs;
        final int[] places;
        final int[] rooms;
        final int[] lengths;
        int taken;
        int slides;

        Cells(int handles, int size) {
            this.handles = handles;
            this.limbs = new int[size];
            this.places = new int[handles + MOST_TAKEN];
            this.rooms = new int[handles + MOST_TAKEN];
            this.lengths = new int[handles];
        }

        boolean isLive(int h) {
            return h >= 0 && h < handles && rooms[h] > 0;
        }

        boolean areLive(int a, int b, int c) {
            return isLive(a) && isLive(b) && isLive(c);
        }

        int leastFree() {
            for (int h = 0; h < handles; h++) {
                if (rooms[h] == 0) {
                    return h;
                }
            }
            return NONE;
        }

        int liveHandles() {
            int live = 0;
            for (int h = 0; h < handles; h++) {
                if (rooms[h] > 0) {
                    live++;
                }
            }
            return live;
        }

        void free(int h) {
            rooms[h] = 0;
            lengths[h] = 0;
        }

        int usedCells() {
            int used = 0;
            for (int run = 0; run < rooms.length; run++) {
                used += rooms[run];
            }
            return used;
        }

        int highestEnd() {
            int highest = 0;
            for (int run = 0; run < rooms.length; run++) {
                if (rooms[run] > 0) {
                    highest = Math.max(highest, places[run] + rooms[run]);
                }
            }
            return highest;
        }

        boolean hasSpace(int n) {
            return highestEnd() + n <= limbs.length;
        }

        int limbIn(int i) {
            for (int h = 0; h < handles; h++) {
                if (i >= places[h] && i - places[h] < rooms[h]) {
                    return limbs[i];
                }
            }
            return NONE;
        }

        int limbOf(int h, int i) {
            return i >= 0 && i < lengths[h] ? limbs[places[h] + i] : 0;
        }

        int writeLimb(int h, int i, int value) {
            limbs[places[h] + i] = value;
            int length = rooms[h];
            while (length > 0 && limbs[places[h] + length - 1] == 0) {
                length--;
            }
            lengths[h] = length;
            return length;
        }

        void read(int h, Row row) {
            System.arraycopy(limbs, places[h], row.limbs, 0, lengths[h]);
            row.length = lengths[h];
        }

        boolean takeAhead(int n) {
            return n <= 0 || take(n) != NO_ROOM;
        }

        /** The run that was taken; NO_ROOM ends the call, so that all it has taken goes. */
        int take(int n) {
            int run = handles + taken;
            if (!hasSpace(n)) {
                slideTogether();
            }
            if (!hasSpace(n) || run >= rooms.length) {
                dropTaken();
                return NO_ROOM;
            }
            places[run] = highestEnd();
            rooms[run] = n;
            taken++;
            return run;
        }

        void dropTaken() {
            for (int run = handles; run < rooms.length; run++) {
                rooms[run] = 0;
            }
            taken = 0;
        }

        void slideTogether() {
            slides++;
            int end = 0;
            for (int k = 0; k < rooms.length; k++) {
                int run = lowestRunFrom(end);
                if (run == NONE) {
                    break;
                }
                System.arraycopy(limbs, places[run], limbs, end, rooms[run]);
                places[run] = end;
                end += rooms[run];
            }
        }

        private int lowestRunFrom(int place) {
            int lowest = NONE;
            for (int run = 0; run < rooms.length; run++) {
                boolean waits = rooms[run] > 0 && places[run] >= place;
                if (waits && (lowest == NONE || places[run] < places[lowest])) {
                    lowest = run;
                }
            }
            return lowest;
        }

        boolean giveRun(int h, int room, Row number) {
            int run = take(room);
            if (run == NO_ROOM) {
                return false;
            }
            settle(h, run, number);
            dropTaken();
            return true;
        }

        int come(int d, Row number) {
            if (number.length > MOST_LIMBS) {
                dropTaken();
                return TOO_LONG;
            }
            int run = runFor(d, number.length);
            if (run == NO_ROOM) {
                return NO_ROOM;
            }
            settle(d, run, number);
            dropTaken();
            return number.length;
        }

        /** The run where a number of that length will lie: h's own, if it is long enough. */
        int runFor(int h, int length) {
            return length <= rooms[h] ? h : take(length);
        }

        void settle(int h, int run, Row number) {
            if (run != h) {
                places[h] = places[run];
                rooms[h] = rooms[run];
                rooms[run] = 0;
            }
            int length = Math.min(number.length, rooms[h]);
            System.arraycopy(number.limbs, 0, limbs, places[h], length);
            Arrays.fill(limbs, places[h] + length, places[h] + rooms[h], 0);
            lengths[h] = length;
        }
    }

    /** A number that is worked on outside of the cells. */
    private static final class Row {
        // A product has the limbs of both factors, and a dividend one limb more.
        final int[] limbs = new int[2 * MOST_LIMBS + 2];
        int length;

        int limbAt(int i) {
            return i >= 0 && i < length ? limbs[i] : 0;
        }

        void trim(int n) {
            length = n;
            while (length > 0 && limbs[length - 1] == 0) {
                length--;
            }
        }

        void copy(Row other) {
            System.arraycopy(other.limbs, 0, limbs, 0, other.length);
            length = other.length;
        }

        void become(int limb) {
            limbs[0] = limb;
            trim(1);
        }

        boolean isOne() {
            return length == 1 && limbs[0] == 1;
        }

        int bits() {
            return length == 0 ? 0 : LIMB_BITS * (length - 1) + bitsOf(limbs[length - 1]);
        }

        boolean hasBit(int i) {
            return (limbAt(i / LIMB_BITS) >> (i % LIMB_BITS)) % 2 == 1;
        }

        int trailingZeros() {
            for (int i = 0; i < length; i++) {
                if (limbs[i] != 0) {
                    return LIMB_BITS * i + Integer.numberOfTrailingZeros(limbs[i]);
                }
            }
            return 0;
        }

        static int bitsOf(int limb) {
            return 32 - Integer.numberOfLeadingZeros(limb);
        }

        void timesPlus(int factor, int summand) {
            int carry = summand;
            for (int i = 0; i < length; i++) {
                int t = limbs[i] * factor + carry;
                limbs[i] = t & HIGHEST_LIMB;
                carry = t >> LIMB_BITS;
            }
            if (carry > 0 && length < limbs.length) {
                limbs[length] = carry;
                length++;
            }
        }

        int divideBy(int divisor) {
            if (divisor <= 0) {
                return 0;
            }
            int rest = 0;
            for (int i = length - 1; i >= 0; i--) {
                int t = (rest << LIMB_BITS) + limbs[i];
                limbs[i] = t / divisor;
                rest = t % divisor;
            }
            trim(length);
            return rest;
        }
    }

    /** Arithmetic on rows. Numbers have at most 64 limbs, but for products, which have 128. */
    private static final class Calculator {
        // Euclid's way takes at most some 1400 steps for 960 bits, Newton's far fewer.
        private static final int MOST_STEPS = 10000;

        final Row quotient = new Row();
        final Row rest = new Row();
        final Row result = new Row();
        private final Row dividend = new Row();
        private final Row divisor = new Row();
        private final Row wide = new Row();
        private final Row other = new Row();

        static int order(Row a, Row b) {
            if (a.length != b.length) {
                return a.length < b.length ? -1 : 1;
            }
            for (int i = a.length - 1; i >= 0; i--) {
                if (a.limbs[i] != b.limbs[i]) {
                    return a.limbs[i] < b.limbs[i] ? -1 : 1;
                }
            }
            return 0;
        }

        static void sum(Row d, Row a, Row b) {
            int n = Math.max(a.length, b.length);
            int carry = 0;
            for (int i = 0; i < n; i++) {
                int t = a.limbAt(i) + b.limbAt(i) + carry;
                d.limbs[i] = t & HIGHEST_LIMB;
                carry = t >> LIMB_BITS;
            }
            d.limbs[n] = carry;
            d.trim(n + 1);
        }

        /** Only for a not below b. */
        static void difference(Row d, Row a, Row b) {
            int n = a.length;
            int borrow = 0;
            for (int i = 0; i < n; i++) {
                int t = a.limbs[i] - b.limbAt(i) - borrow;
                d.limbs[i] = t & HIGHEST_LIMB;
                borrow = t < 0 ? 1 : 0;
            }
            d.trim(n);
        }

        /** Only for d that is neither a nor b. */
        static void product(Row d, Row a, Row b) {
            int[] x = a.limbs;
            int[] y = b.limbs;
            int n = a.length + b.length;
            long column = 0;
            for (int k = 0; k < n; k++) {
                int last = Math.min(k, a.length - 1);
                for (int i = Math.max(0, k - b.length + 1); i <= last; i++) {
                    column += x[i] * y[k - i];
                }
                d.limbs[k] = (int) column & HIGHEST_LIMB;
                column >>= LIMB_BITS;
            }
            d.trim(n);
        }

        // From the top, so that a row may be shifted onto itself.
        static void shiftUp(Row d, Row a, int n) {
            int whole = n / LIMB_BITS;
            int part = n % LIMB_BITS;
            int la = a.length;
            for (int i = la; i >= 0; i--) {
                int t = (a.limbAt(i) << part) | (a.limbAt(i - 1) >> (LIMB_BITS - part));
                d.limbs[i + whole] = t & HIGHEST_LIMB;
            }
            Arrays.fill(d.limbs, 0, whole, 0);
            d.trim(la + whole + 1);
        }

        static void shiftDown(Row d, Row a, int n) {
            int whole = n / LIMB_BITS;
            int part = n % LIMB_BITS;
            int left = Math.max(0, a.length - whole);
            for (int i = 0; i < left; i++) {
                int above = a.limbAt(i + whole + 1) << (LIMB_BITS - part);
                d.limbs[i] = ((a.limbAt(i + whole) >> part) | above) & HIGHEST_LIMB;
            }
            d.trim(left);
        }

        /** Sets quotient and rest; the way is Knuth's algorithm D. */
        void divide(Row a, Row b) {
            int la = a.length;
            int lb = b.length;
            if (lb == 0 || order(a, b) < 0) {
                rest.copy(a);
                quotient.trim(0);
                return;
            }
            int shift = LIMB_BITS - Row.bitsOf(b.limbs[lb - 1]);
            shiftUp(dividend, a, shift);
            shiftUp(divisor, b, shift);
            for (int j = la - lb; j >= 0; j--) {
                int guess = guessDigit(j);
                if (subtractMultiple(guess, j)) {
                    addBack(j);
                    guess--;
                }
                quotient.limbs[j] = guess;
            }
            quotient.trim(la - lb + 1);
            dividend.trim(lb);
            shiftDown(rest, dividend, shift);
        }

        private int guessDigit(int j) {
            int n = divisor.length;
            int top = divisor.limbAt(n - 1);
            if (top == 0) {
                return 0;
            }
            int next = divisor.limbAt(n - 2);
            int head = (dividend.limbs[j + n] << LIMB_BITS) + dividend.limbs[j + n - 1];
            int behind = n > 1 ? dividend.limbs[j + n - 2] : 0;
            int guess = head / top;
            int left = head % top;
            // A divisor whose highest bit is 1 keeps the guess at most two above the digit.
            for (int k = 0; k < 2 && left <= HIGHEST_LIMB; k++) {
                if (guess <= HIGHEST_LIMB && guess * next <= (left << LIMB_BITS) + behind) {
                    break;
                }
                guess--;
                left += top;
            }
            return guess;
        }

        /**
         * Whether the multiple was too great: then the divisor must be added back. The limb above
         * would be 0 in the end, and no later step looks at it, so it is left.
         */
        private boolean subtractMultiple(int factor, int j) {
            int[] from = dividend.limbs;
            int[] limbs = divisor.limbs;
            int n = divisor.length;
            int borrow = 0;
            for (int i = 0; i < n; i++) {
                int t = from[i + j] - factor * limbs[i] - borrow;
                from[i + j] = t & HIGHEST_LIMB;
                borrow = -(t >> LIMB_BITS);
            }
            return from[j + n] < borrow;
        }

        private void addBack(int j) {
            int n = divisor.length;
            int carry = 0;
            for (int i = 0; i < n; i++) {
                int t = dividend.limbs[i + j] + divisor.limbs[i] + carry;
                dividend.limbs[i + j] = t & HIGHEST_LIMB;
                carry = t >> LIMB_BITS;
            }
        }

        /** Sets result to a to the e, modulo m. */
        void raise(Row a, Row e, Row m) {
            divide(a, m);
            other.copy(rest);
            result.become(1);
            divide(result, m);
            result.copy(rest);
            for (int i = e.bits() - 1; i >= 0; i--) {
                int factors = e.hasBit(i) ? 2 : 1;
                for (int k = 0; k < factors; k++) {
                    product(wide, result, k == 0 ? result : other);
                    divide(wide, m);
                    result.copy(rest);
                }
            }
        }

        /** Sets result to the greatest common divisor. */
        void commonDivisor(Row a, Row b) {
            result.copy(a);
            other.copy(b);
            for (int step = 0; step < MOST_STEPS && other.length > 0; step++) {
                divide(result, other);
                result.copy(other);
                other.copy(rest);
            }
        }

        /** Sets result to the root, downwards. Newton's steps fall until they have reached it. */
        void squareRoot(Row a) {
            result.become(a.length == 0 ? 0 : 1);
            shiftUp(result, result, (a.bits() + 1) / 2);
            for (int step = 0; step < MOST_STEPS; step++) {
                divide(a, result);
                sum(other, quotient, result);
                shiftDown(other, other, 1);
                if (order(other, result) >= 0) {
                    break;
                }
                result.copy(other);
            }
        }

        /** Only for m that is odd. */
        int jacobiSymbol(Row a, Row m) {
            int sign = 1;
            divide(a, m);
            other.copy(rest);
            result.copy(m);
            for (int step = 0; step < MOST_STEPS && other.length > 0; step++) {
                int twos = other.trailingZeros();
                shiftDown(other, other, twos);
                int byEight = result.limbAt(0) % 8;
                if (twos % 2 == 1 && (byEight == 3 || byEight == 5)) {
                    sign = -sign;
                }
                if (other.limbAt(0) % 4 == 3 && byEight % 4 == 3) {
                    sign = -sign;
                }
                divide(result, other);
                result.copy(other);
                other.copy(rest);
            }
            return result.isOne() ? sign : 0;
        }
    }

    /** The bytes that were fed, to be read as digits. */
    private static final class Tape {
        private final int[] bytes = new int[1000];
        int count;

        boolean hasSpace(int n) {
            return count + n <= bytes.length;
        }

        void putBytesOf(int value) {
            for (int moved = 24; moved >= 0 && count < bytes.length; moved -= 8) {
                bytes[count] = (value >> moved) & 255;
                count++;
            }
        }

        int digitsAhead(int base) {
            int place = 0;
            while (place < count && digitOf(bytes[place]) < base) {
                place++;
            }
            return place;
        }

        /** Only if all bytes are digits. A number with more than 64 limbs is read no further. */
        void readNumber(Row row, int base) {
            row.trim(0);
            for (int i = 0; i < count && row.length <= MOST_LIMBS; i++) {
                row.timesPlus(base, digitOf(bytes[i]));
            }
        }

        // What is no digit is above every base.
        private static int digitOf(int character) {
            if (character >= '0' && character <= '9') {
                return character - '0';
            }
            if (character >= 'a' && character <= 'z') {
                return character - 'a' + 10;
            }
            return 36;
        }
    }

    /** The digits that were written. */
    private static final class Digits {
        private final int[] bytes = new int[MOST_BITS];
        int count;

        /** Leaves 0 in the row. */
        void write(Row row, int base) {
            count = 0;
            do {
                bytes[count] = characterOf(row.divideBy(base));
                count++;
            } while (row.length > 0 && count < bytes.length);
        }

        // The lowest digit was written first, and is told last.
        int byteAt(int i) {
            return i >= 0 && i < count ? bytes[count - 1 - i] : NONE;
        }

        private static int characterOf(int digit) {
            return digit < 10 ? '0' + digit : 'a' + digit - 10;
        }
    }

    /** The words, and what they say as a certificate. */
    private static final class Certificate {
        private static final int MOST_FACTORS = 20;

        final int[] words;
        int count;
        // Where the nodes begin, and, by a node's first word, where it ends.
        private final int[] starts;
        private final int[] ends;
        private int nodes;
        private final Row p = new Row();
        private final Row witness = new Row();
        private final Row q = new Row();
        private final Row previous = new Row();
        private final Row total = new Row();
        private final Row spare = new Row();

        Certificate(int size) {
            this.words = new int[size];
            this.starts = new int[size];
            this.ends = new int[size];
        }

        boolean append(int value) {
            if (count >= words.length) {
                return false;
            }
            words[count] = value;
            count++;
            return true;
        }

        int wordAt(int i) {
            return i >= 0 && i < count ? words[i] : NONE;
        }

        void copyWords(int[] source, int n) {
            count = Math.min(n, words.length);
            System.arraycopy(source, 0, words, 0, count);
        }

        boolean isOneNode() {
            nodes = 0;
            int end = endOfNode(0, 1);
            return end != NONE && end == count;
        }

        private int endOfNode(int at, int open) {
            int behindPrime = endOfNumber(at);
            if (open > MOST_NODES_OPEN || behindPrime == NONE || nodes >= starts.length) {
                return NONE;
            }
            starts[nodes] = at;
            nodes++;
            ends[at] = isTwo(at) ? behindPrime : endOfFactors(endOfNumber(behindPrime), open);
            return ends[at];
        }

        private int endOfFactors(int at, int open) {
            int factors = wordAt(at);
            if (factors < 1 || factors > MOST_FACTORS) {
                return NONE;
            }
            int next = at + 1;
            for (int k = 0; k < factors && next != NONE; k++) {
                int exponent = wordAt(next);
                boolean fits = exponent >= 1 && exponent <= MOST_BITS;
                next = fits ? endOfNode(next + 1, open + 1) : NONE;
            }
            return next;
        }

        private int endOfNumber(int at) {
            int limbs = wordAt(at);
            if (limbs < 1 || limbs > MOST_LIMBS || wordAt(at + limbs) <= 0) {
                return NONE;
            }
            return at + limbs + 1;
        }

        private boolean isTwo(int at) {
            return wordAt(at) == 1 && wordAt(at + 1) == 2;
        }

        private int readNumber(int at, Row row) {
            row.length = Math.max(0, Math.min(MOST_LIMBS, wordAt(at)));
            for (int i = 0; i < row.length; i++) {
                row.limbs[i] = wordAt(at + 1 + i);
            }
            return at + 1 + row.length;
        }

        /**
         * Only behind isOneNode. A node is good if it and all nodes inside it are good by
         * themselves; powers are dear, so all nodes are looked at without them first.
         */
        boolean isGoodFor(Row number, Calculator calculator) {
            readNumber(0, p);
            if (Calculator.order(p, number) != 0) {
                return false;
            }
            for (int k = 0; k < nodes; k++) {
                if (!isTwo(starts[k]) && !factorsFit(starts[k])) {
                    return false;
                }
            }
            for (int k = 0; k < nodes; k++) {
                if (!isTwo(starts[k]) && !witnessHolds(starts[k], calculator)) {
                    return false;
                }
            }
            return true;
        }

        private boolean factorsFit(int at) {
            int behind = readNumber(readNumber(at, p), witness);
            if (Calculator.order(witness, p) >= 0) {
                return false;
            }
            int factors = wordAt(behind);
            int next = behind + 1;
            total.become(1);
            previous.trim(0);
            for (int k = 0; k < factors; k++) {
                readNumber(next + 1, q);
                boolean between = Calculator.order(q, previous) > 0 && Calculator.order(q, p) < 0;
                if (!between || !multiplyTotal(wordAt(next))) {
                    return false;
                }
                previous.copy(q);
                next = ends[next + 1];
            }
            spare.become(1);
            Calculator.sum(spare, spare, total);
            return Calculator.order(spare, p) == 0;
        }

        /** False as soon as the total has more limbs than p. */
        private boolean multiplyTotal(int times) {
            for (int k = 0; k < times; k++) {
                Calculator.product(spare, total, q);
                total.copy(spare);
                if (total.length > p.length) {
                    return false;
                }
            }
            return true;
        }

        private boolean witnessHolds(int at, Calculator calculator) {
            int behind = readNumber(readNumber(at, p), witness);
            spare.become(1);
            Calculator.difference(total, p, spare);
            calculator.raise(witness, total, p);
            if (!calculator.result.isOne()) {
                return false;
            }
            int factors = wordAt(behind);
            int next = behind + 1;
            for (int k = 0; k < factors; k++) {
                readNumber(next + 1, q);
                calculator.divide(total, q);
                spare.copy(calculator.quotient);
                calculator.raise(witness, spare, p);
                if (calculator.result.isOne()) {
                    return false;
                }
                next = ends[next + 1];
            }
            return true;
        }
    }

    /** Writes certificates of primes below 2 to the 30. */
    private static final class Prover {
        // The product of the ten least primes is above 2 to the 30.
        private static final int MOST_FACTORS = 9;

        final int[] draft;
        int count;
        // Each open node has its own part of the row, as the nodes inside it come between.
        private final int[] factors = new int[MOST_NODES_OPEN * MOST_FACTORS];

        Prover(int size) {
            this.draft = new int[size];
        }

        static boolean isPrime(int n) {
            return n >= 2 && leastFactor(n, 2) == n;
        }

        /** Only for n that has no factor below from. */
        private static int leastFactor(int n, int from) {
            for (int f = Math.max(2, from); f <= HIGHEST_LIMB && f * f <= n; f += f == 2 ? 1 : 2) {
                if (n % f == 0) {
                    return f;
                }
            }
            return n;
        }

        /** Only for n above 0; such an n below 2 to the 30 has no factor thirty times. */
        private static int exponentOf(int factor, int n) {
            int left = n;
            int exponent = 0;
            while (exponent < 30 && factor >= 2 && left % factor == 0) {
                left /= factor;
                exponent++;
            }
            return exponent;
        }

        boolean write(int p) {
            count = 0;
            return writeNode(p, 1);
        }

        private boolean writeNode(int p, int open) {
            if (open > MOST_NODES_OPEN || !putNumber(p)) {
                return false;
            }
            return p == 2 || writeFactors(p, open);
        }

        private boolean writeFactors(int p, int open) {
            int from = MOST_FACTORS * (open - 1);
            int behind = findFactors(p - 1, from);
            if (!putNumber(leastWitness(p, from, behind)) || !put(behind - from)) {
                return false;
            }
            for (int k = from; k < behind; k++) {
                if (!put(exponentOf(factors[k], p - 1)) || !writeNode(factors[k], open + 1)) {
                    return false;
                }
            }
            return true;
        }

        /** The place behind the last factor. */
        private int findFactors(int n, int from) {
            int left = n;
            int factor = 2;
            int place = from;
            while (left > 1 && place < from + MOST_FACTORS && place < factors.length) {
                factor = leastFactor(left, factor);
                for (int k = exponentOf(factor, left); k > 0 && factor >= 2; k--) {
                    left /= factor;
                }
                factors[place] = factor;
                place++;
            }
            return place;
        }

        private int leastWitness(int p, int from, int behind) {
            for (int w = 1; w < p; w++) {
                if (isWitness(w, p, from, behind)) {
                    return w;
                }
            }
            return NONE;
        }

        // As p is a prime, w to the p - 1 is 1 without a look.
        private boolean isWitness(int w, int p, int from, int behind) {
            for (int k = from; k < behind; k++) {
                if (factors[k] < 2 || powerModulo(w, (p - 1) / factors[k], p) == 1) {
                    return false;
                }
            }
            return true;
        }

        private static int powerModulo(int base, int exponent, int modulus) {
            if (modulus < 1) {
                return 0;
            }
            long square = base % modulus;
            long power = 1 % modulus;
            for (int left = exponent; left > 0; left /= 2) {
                if (left % 2 == 1) {
                    power = power * square % modulus;
                }
                square = square * square % modulus;
            }
            return (int) power;
        }

        private boolean putNumber(int value) {
            int high = value >> LIMB_BITS;
            boolean fits = put(high > 0 ? 2 : 1) && put(value & HIGHEST_LIMB);
            return fits && (high == 0 || put(high));
        }

        private boolean put(int value) {
            if (count >= draft.length) {
                return false;
            }
            draft[count] = value;
            count++;
            return true;
        }
    }
}
