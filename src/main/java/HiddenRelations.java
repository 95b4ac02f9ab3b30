import java.util.Arrays;

/**
 * Hidden relations among several series over a field of p numbers: all rows of polynomials by
 * which chosen series together vanish to an order, relations that are guessed and kept, and
 * recurrences by which a series is told on. ../shared/DOC.md says what each call promises.
 */
public final class HiddenRelations {
    public static final int BAD = -1, NOT = -2, NONE = -3, FULL = -4;

    private static final int MISSING = -11, NO_PLACE = -12, TWO_SORTS = -13, BELOW_ZERO = -14;
    private static final int ALL_SERIES = 6, TERMS = 32;
    private static final int MOST_CHOSEN = 4, MOST_LIFT = 9;
    private static final int RATIONAL = 0, DIFFERENTIAL = 2, MOST_TIMES = 3, MOST_HEIGHT = 9;
    private static final int ALL_SHEETS = 3;
    /** How far apart in a row the polynomials stand that relates() reads. */
    private static final int STRIDE = 8;

    private final Numbers numbers = new Numbers();
    private final int[][] all = new int[ALL_SERIES][TERMS];
    private final Reader reader = new Reader(numbers);

    private int chosen = 1;
    private int upTo = 8;
    private final int[] lifts = new int[ALL_SERIES];

    private final Basis basis = new Basis(numbers);
    /** Whether the basis may be another than that of the choice, so that it must be built anew. */
    private boolean stale = true;

    private final int[][] parts = new int[MOST_CHOSEN][TERMS];
    private final int[] partLifts = new int[MOST_CHOSEN];
    private final int[] factor = new int[TERMS];
    private final int[] sum = new int[TERMS];

    private final Ledger ledger = new Ledger();
    private final Sheet[] sheets = new Sheet[ALL_SHEETS];

    public HiddenRelations() {
        for (int i = 0; i < ALL_SHEETS; i++) {
            sheets[i] = new Sheet();
        }
    }

    // ---- the field, series

    public int field(int p) {
        if (p < 2 || p > Numbers.MOST_P || !Numbers.isPrime(p)) {
            return BAD;
        }
        int had = numbers.p;
        numbers.p = p;
        for (int s = 0; s < ALL_SERIES; s++) {
            Arrays.fill(all[s], 0);
        }
        stale = true;
        return had;
    }

    public int term(int series, int k, int v) {
        if (!isSeries(series) || !isTerm(k)) {
            return BAD;
        }
        int was = all[series][k];
        all[series][k] = numbers.taken(v);
        stale = true;
        return was;
    }

    public int at(int series, int k) {
        return isSeries(series) && isTerm(k) ? all[series][k] : BAD;
    }

    public int mix(int one, int a, int other, int b, int to) {
        if (!isSeries(one) || !isSeries(other) || !isSeries(to)) {
            return BAD;
        }
        numbers.combine(all[one], a, all[other], b, all[to]);
        stale = true;
        return 1;
    }

    public int times(int one, int other, int to) {
        if (!isSeries(one) || !isSeries(other) || !isSeries(to)) {
            return BAD;
        }
        numbers.multiply(all[one], all[other], all[to]);
        stale = true;
        return 1;
    }

    public int inverse(int one, int to) {
        if (!isSeries(one) || !isSeries(to)) {
            return BAD;
        }
        if (all[one][0] == 0) {
            return NOT;
        }
        numbers.constant(1, sum);
        numbers.divide(sum, all[one], all[to]);
        stale = true;
        return 1;
    }

    public int weigh(int one, int to) {
        if (!isSeries(one) || !isSeries(to)) {
            return BAD;
        }
        numbers.weight(all[one], all[to]);
        stale = true;
        return 1;
    }

    public int shift(int one, int k, int to) {
        if (!isSeries(one) || !isTerm(k) || !isSeries(to)) {
            return BAD;
        }
        System.arraycopy(all[one], 0, all[to], k, TERMS - k);
        Arrays.fill(all[to], 0, k, 0);
        stale = true;
        return 1;
    }

    public int feed(int n, int word) {
        if (n < 1 || n > 4) {
            return BAD;
        }
        return reader.append(n, word) ? reader.size : FULL;
    }

    public int text(int series) {
        if (!isSeries(series)) {
            return BAD;
        }
        stale = true;
        return reader.read(all[series]);
    }

    public int zeros(int series) {
        return isSeries(series) ? Numbers.leadingZeros(all[series]) : BAD;
    }

    // ---- the choice, its basis

    public int choose(int set) {
        int m = Integer.bitCount(set);
        if (set < 0 || set >= 1 << ALL_SERIES || m < 1 || m > MOST_CHOSEN) {
            return BAD;
        }
        chosen = set;
        stale = true;
        return m;
    }

    public int lift(int series, int s) {
        if (!isSeries(series) || s < 0 || s > MOST_LIFT) {
            return BAD;
        }
        int was = lifts[series];
        lifts[series] = s;
        stale = true;
        return was;
    }

    public int order(int n) {
        if (n < 1 || n > TERMS) {
            return BAD;
        }
        int was = upTo;
        upTo = n;
        stale = true;
        return was;
    }

    public int told(int what) {
        if (what < 0 || what > 5) {
            return BAD;
        }
        Basis now = currentBasis();
        switch (what) {
            case 0: return now.size;
            case 1: return upTo;
            case 2: return now.allDegrees();
            case 3: return now.height(now.leastRow());
            case 4: return now.greatestHeight();
            default: return now.leastRow();
        }
    }

    public int row(int i, int what) {
        if (!isChosen(i) || what < 0 || what > 2) {
            return BAD;
        }
        Basis now = currentBasis();
        switch (what) {
            case 0: return now.degrees[i];
            case 1: return now.height(i);
            default: return Numbers.leadingZeros(now.rests[i]);
        }
    }

    public int entry(int i, int j, int k) {
        if (!isChosen(i) || !isChosen(j) || k < 0 || k > TERMS) {
            return BAD;
        }
        return currentBasis().coefficient(i, j, k);
    }

    public int rest(int i, int k) {
        return isChosen(i) && isTerm(k) ? currentBasis().rests[i][k] : BAD;
    }

    public int comes(int i, int to) {
        if (!isChosen(i) || !isSeries(to)) {
            return BAD;
        }
        System.arraycopy(currentBasis().rests[i], 0, all[to], 0, TERMS);
        stale = true;
        return 1;
    }

    public int relates(int row) {
        if (!isSheet(row)) {
            return BAD;
        }
        if (sheets[row].isMissing()) {
            return MISSING;
        }
        int m = gatherChosen();
        boolean nothing = true;
        Arrays.fill(sum, 0);
        for (int i = 0; i < m; i++) {
            Arrays.fill(factor, 0);
            for (int k = 0; k < STRIDE; k++) {
                factor[k] = numbers.taken(sheets[row].numberOrZero(STRIDE * i + k));
                nothing = nothing && factor[k] == 0;
            }
            addProduct(parts[i]);
        }
        return !nothing && Numbers.leadingZeros(sum) >= upTo ? 1 : 0;
    }

    // ---- guesses

    public int guess(int series, int kind, int r, int used, int high) {
        if (!isSeries(series) || kind < RATIONAL || kind > DIFFERENTIAL) {
            return BAD;
        }
        if (kind != RATIONAL && (r < 1 || r > MOST_TIMES)) {
            return BAD;
        }
        if (used < 1 || used > TERMS || high < 0 || high > MOST_HEIGHT) {
            return BAD;
        }
        Place place = ledger.freePlace();
        if (place == null) {
            return FULL;
        }
        int m = kind == RATIONAL ? 2 : r + 1;
        gatherKind(kind, m, all[series]);
        Arrays.fill(partLifts, 0);
        stale = true;
        basis.build(parts, partLifts, m, used);
        int least = basis.leastRow();
        if (basis.height(least) > high) {
            return NONE;
        }
        place.kind = kind;
        place.used = used;
        place.p = numbers.p;
        place.keepRow(basis, least);
        return ledger.giveNumber(place);
    }

    public int certificate(int number, int what) {
        if (what < 0 || what > 5) {
            return BAD;
        }
        Place place = ledger.find(number);
        if (place == null) {
            return NONE;
        }
        switch (what) {
            case 0: return place.kind;
            case 1: return place.polynomials;
            case 2: return place.used;
            case 3: return place.height;
            case 4: return place.holds;
            default: return place.p;
        }
    }

    public int proof(int number, int j, int k) {
        Place place = ledger.find(number);
        if (place == null) {
            return NONE;
        }
        if (j < 0 || j >= place.polynomials || k < 0 || k > MOST_HEIGHT) {
            return BAD;
        }
        return place.coefficient(j, k);
    }

    public int test(int number, int series) {
        if (!isSeries(series)) {
            return BAD;
        }
        Place place = ledger.find(number);
        if (place == null) {
            return NONE;
        }
        if (place.p != numbers.p) {
            return NOT;
        }
        gatherKind(place.kind, place.polynomials, all[series]);
        Arrays.fill(sum, 0);
        for (int j = 0; j < place.polynomials && j < MOST_CHOSEN; j++) {
            place.copyPolynomial(j, factor);
            addProduct(parts[j]);
        }
        return Numbers.leadingZeros(sum);
    }

    public int toldOn(int number, int to) {
        if (!isSeries(to)) {
            return BAD;
        }
        Place place = ledger.find(number);
        if (place == null) {
            return NONE;
        }
        if (place.kind != RATIONAL || place.p != numbers.p || place.coefficient(1, 0) == 0) {
            return NOT;
        }
        place.copyPolynomial(0, sum);
        place.copyPolynomial(1, factor);
        numbers.divide(sum, factor, sum);
        numbers.combine(sum, -1, sum, 0, all[to]);
        stale = true;
        return 1;
    }

    public int strike(int number) {
        Place place = ledger.find(number);
        if (place == null) {
            return NONE;
        }
        place.kept = false;
        return ledger.size();
    }

    public int listed(int i) {
        return ledger.numberInTurn(i);
    }

    // ---- rows, counts

    public int sheet(int row, int sort, int n) {
        if (!isSheet(row) || sort < Sheet.BYTES || sort > Sheet.INTS || n > Sheet.ROOM) {
            return BAD;
        }
        if (n < 0) {
            return BELOW_ZERO;
        }
        sheets[row].begin(sort, n);
        return 1;
    }

    public int put(int row, int i, int v) {
        if (!isSheet(row)) {
            return BAD;
        }
        if (sheets[row].isMissing()) {
            return MISSING;
        }
        if (!sheets[row].hasPlaces(i, 1)) {
            return NO_PLACE;
        }
        sheets[row].keep(i, v);
        return 1;
    }

    public int get(int row, int i) throws IllegalArgumentException, IllegalStateException, IndexOutOfBoundsException {
        if (!isSheet(row)) {
            throw new IllegalArgumentException("no such row");
        }
        if (sheets[row].isMissing()) {
            throw new IllegalStateException("the row is missing");
        }
        if (!sheets[row].hasPlaces(i, 1)) {
            throw new IndexOutOfBoundsException("no such place");
        }
        return sheets[row].numberOrZero(i);
    }

    public int move(int row, int i, int other, int j, int n) {
        if (!isSheet(row) || !isSheet(other)) {
            return BAD;
        }
        Sheet from = sheets[row];
        Sheet to = sheets[other];
        if (from.isMissing() || to.isMissing()) {
            return MISSING;
        }
        if (from.sort != to.sort) {
            return TWO_SORTS;
        }
        if (!from.hasPlaces(i, n) || !to.hasPlaces(j, n)) {
            return NO_PLACE;
        }
        System.arraycopy(from.kept, i, to.kept, j, n);
        return n;
    }

    public int loads(int series, int row) {
        if (!isSeries(series) || !isSheet(row)) {
            return BAD;
        }
        if (sheets[row].isMissing()) {
            return MISSING;
        }
        for (int k = 0; k < TERMS; k++) {
            all[series][k] = numbers.taken(sheets[row].numberOrZero(k));
        }
        stale = true;
        return Math.min(sheets[row].size, TERMS);
    }

    public int spills(int series, int row) {
        if (!isSeries(series) || !isSheet(row)) {
            return BAD;
        }
        if (sheets[row].isMissing()) {
            return MISSING;
        }
        int n = Math.min(sheets[row].size, TERMS);
        for (int k = 0; k < n; k++) {
            sheets[row].keep(k, all[series][k]);
        }
        return n;
    }

    public int count(int what) {
        switch (what) {
            case 0: return numbers.p;
            case 1: return reader.size;
            case 2: return ledger.size();
            case 3: return sheetsThere();
            case 4: return ledger.given;
            case 5: return chosen;
            case 6: return seriesNotZero();
            default: return BAD;
        }
    }

    // ---- what the calls share

    private static boolean isSeries(int s) {
        return s >= 0 && s < ALL_SERIES;
    }

    private static boolean isTerm(int k) {
        return k >= 0 && k < TERMS;
    }

    private static boolean isSheet(int row) {
        return row >= 0 && row < ALL_SHEETS;
    }

    private boolean isChosen(int i) {
        return i >= 0 && i < Integer.bitCount(chosen);
    }

    private int sheetsThere() {
        int there = 0;
        for (int i = 0; i < ALL_SHEETS; i++) {
            there += sheets[i].isMissing() ? 0 : 1;
        }
        return there;
    }

    private int seriesNotZero() {
        int set = 0;
        for (int s = 0; s < ALL_SERIES; s++) {
            if (Numbers.leadingZeros(all[s]) < TERMS) {
                set |= 1 << s;
            }
        }
        return set;
    }

    private Basis currentBasis() {
        if (stale) {
            int m = gatherChosen();
            basis.build(parts, partLifts, m, upTo);
            stale = false;
        }
        return basis;
    }

    /** The chosen series become the parts, in the order of their numbers; answers how many. */
    private int gatherChosen() {
        int m = 0;
        for (int s = 0; s < ALL_SERIES && m < MOST_CHOSEN; s++) {
            if ((chosen >> s & 1) != 0) {
                System.arraycopy(all[s], 0, parts[m], 0, TERMS);
                partLifts[m] = lifts[s];
                m++;
            }
        }
        return m;
    }

    /** The m series that a guess of this kind looks at become the parts. */
    private void gatherKind(int kind, int m, int[] series) {
        if (kind == DIFFERENTIAL) {
            System.arraycopy(series, 0, parts[0], 0, TERMS);
        } else {
            numbers.constant(1, parts[0]);
        }
        for (int j = 1; j < m && j < MOST_CHOSEN; j++) {
            if (kind == DIFFERENTIAL) {
                numbers.weight(parts[j - 1], parts[j]);
            } else {
                numbers.multiply(parts[j - 1], series, parts[j]);
            }
        }
    }

    private void addProduct(int[] part) {
        numbers.multiply(factor, part, factor);
        numbers.combine(sum, 1, factor, 1, sum);
    }

    /** The numbers of the field and series over them; a result may come into a row that it is made of. */
    private static final class Numbers {
        private static final int MOST_P = 997;

        private int p = 97;
        private final int[] quotient = new int[TERMS];

        private static boolean isPrime(int n) {
            for (int d = 2; d * d <= n && d < MOST_P; d++) {
                if (n % d == 0) {
                    return false;
                }
            }
            return n > 1;
        }

        private static int leadingZeros(int[] row) {
            for (int k = 0; k < TERMS; k++) {
                if (row[k] != 0) {
                    return k;
                }
            }
            return TERMS;
        }

        private int taken(int v) {
            return p > 0 ? Math.floorMod(v, p) : 0;
        }

        /** By Fermat: the power p - 2 of a number that isn't 0 makes 1 with it. */
        private int reciprocal(int v) {
            if (p < 2) {
                return 0;
            }
            int result = 1;
            int square = v;
            for (int e = p - 2; e > 0; e >>= 1) {
                if ((e & 1) != 0) {
                    result = result * square % p;
                }
                square = square * square % p;
            }
            return result;
        }

        private void constant(int v, int[] to) {
            Arrays.fill(to, 0);
            to[0] = taken(v);
        }

        private void combine(int[] one, int a, int[] other, int b, int[] to) {
            int ofOne = taken(a);
            int ofOther = taken(b);
            for (int k = 0; k < TERMS; k++) {
                to[k] = taken(ofOne * one[k] + ofOther * other[k]);
            }
        }

        private void weight(int[] one, int[] to) {
            for (int k = 0; k < TERMS; k++) {
                to[k] = taken(k * one[k]);
            }
        }

        /** From the highest term down, as term k needs none above it: so the rows may be the same. */
        private void multiply(int[] one, int[] other, int[] to) {
            for (int k = TERMS - 1; k >= 0; k--) {
                int v = 0;
                for (int i = 0; i <= k; i++) {
                    v += one[i] * other[k - i];
                }
                to[k] = taken(v);
            }
        }

        /** The caller sees to it that term 0 of the divisor isn't 0. */
        private void divide(int[] one, int[] by, int[] to) {
            int first = reciprocal(by[0]);
            for (int k = 0; k < TERMS; k++) {
                int v = one[k];
                for (int i = 1; i <= k; i++) {
                    v -= by[i] * quotient[k - i];
                }
                quotient[k] = taken(taken(v) * first);
            }
            System.arraycopy(quotient, 0, to, 0, TERMS);
        }
    }

    /**
     * The tape and the reading of a text from it, a token at a time. What stands open in each pair
     * of parentheses has a level of its own, so that no call stands open for it.
     */
    private static final class Reader {
        private static final int ROOM = 80, DIGITS = 4, MOST_POWER = 40, DEEPEST = 4;
        private static final int BLANK = 32;
        /** Tokens that aren't one of the signs, which stand for themselves. */
        private static final int END = -1, NUMBER = -2, WRONG = -3;
        /** What was read last, and so what may come next. */
        private static final int OPENED = 0, JOINED = 1, ATOM = 2, CARET = 3, RAISED = 4, OVER = 5;

        private final Numbers numbers;
        private final int[] tape = new int[ROOM];
        private int size;

        private int next;
        private int token;
        private int place;
        private int value;

        private int state;
        private int fault;
        private int hole;

        private int level;
        private final int[][] sums = new int[DEEPEST + 1][TERMS];
        private final int[][] terms = new int[DEEPEST + 1][TERMS];
        private final int[][] powers = new int[DEEPEST + 1][TERMS];
        private final boolean[] minus = new boolean[DEEPEST + 1];
        private final int[] joins = new int[DEEPEST + 1];
        private final int[] joinPlaces = new int[DEEPEST + 1];
        private final int[] base = new int[TERMS];

        private Reader(Numbers numbers) {
            this.numbers = numbers;
        }

        private boolean append(int n, int word) {
            if (n > ROOM - size) {
                return false;
            }
            for (int i = 0; i < n && size < ROOM; i++) {
                tape[size] = word >>> 8 * i & 255;
                size++;
            }
            return true;
        }

        private int read(int[] to) {
            next = 0;
            fault = -1;
            hole = -1;
            open(0);
            for (int tokens = 0; tokens <= ROOM && state != OVER; tokens++) {
                scan();
                accept();
            }
            size = 0;
            if (fault >= 0) {
                return -100 - fault;
            }
            if (hole >= 0) {
                return -200 - hole;
            }
            System.arraycopy(sums[0], 0, to, 0, TERMS);
            return 1;
        }

        private void scan() {
            while (next < size && tape[next] == BLANK) {
                next++;
            }
            place = next;
            if (next >= size) {
                token = END;
            } else if (isDigit(tape[next])) {
                scanNumber();
            } else {
                token = isSign(tape[next]) ? tape[next] : WRONG;
                next++;
            }
        }

        private void scanNumber() {
            value = 0;
            while (next < size && isDigit(tape[next])) {
                if (next - place < DIGITS) {
                    value = 10 * value + tape[next] - '0';
                }
                next++;
            }
            token = next - place <= DIGITS ? NUMBER : WRONG;
        }

        private static boolean isDigit(int b) {
            return b >= '0' && b <= '9';
        }

        private static boolean isSign(int b) {
            switch (b) {
                case 'x': case '+': case '-': case '*': case '/': case '^': case '(': case ')':
                    return true;
                default:
                    return false;
            }
        }

        private void accept() {
            if (state == OPENED && token == '-') {
                minus[level] = true;
                state = JOINED;
            } else if (state == OPENED || state == JOINED) {
                acceptAtom();
            } else if (state == CARET) {
                acceptPower();
            } else if (state == ATOM && token == '^') {
                state = CARET;
            } else {
                acceptJoin();
            }
        }

        private void acceptAtom() {
            if (token == '(' && level < DEEPEST) {
                open(level + 1);
                return;
            }
            if (token == 'x') {
                Arrays.fill(powers[level], 0);
                powers[level][1] = 1;
                state = ATOM;
            } else if (token == NUMBER) {
                numbers.constant(value, powers[level]);
                state = ATOM;
            } else {
                stop();
            }
        }

        private void acceptPower() {
            if (token != NUMBER || value > MOST_POWER) {
                stop();
                return;
            }
            System.arraycopy(powers[level], 0, base, 0, TERMS);
            numbers.constant(1, powers[level]);
            for (int e = 0; e < value; e++) {
                numbers.multiply(powers[level], base, powers[level]);
            }
            state = RAISED;
        }

        private void acceptJoin() {
            if (token == '*' || token == '/') {
                endPower();
                joins[level] = token;
                joinPlaces[level] = place;
                state = JOINED;
            } else if (token == '+' || token == '-') {
                endPower();
                endTerm();
                minus[level] = token == '-';
                state = JOINED;
            } else if (token == ')' && level > 0) {
                endPower();
                endTerm();
                level--;
                System.arraycopy(sums[level + 1], 0, powers[level], 0, TERMS);
                state = ATOM;
            } else if (token == END && level == 0) {
                endPower();
                endTerm();
                state = OVER;
            } else {
                stop();
            }
        }

        private void stop() {
            fault = place;
            state = OVER;
        }

        private void open(int at) {
            level = at;
            Arrays.fill(sums[level], 0);
            numbers.constant(1, terms[level]);
            joins[level] = '*';
            minus[level] = false;
            state = OPENED;
        }

        /** Reading goes on behind a hole, as a fault further on comes ahead of it. */
        private void endPower() {
            if (joins[level] == '*') {
                numbers.multiply(terms[level], powers[level], terms[level]);
            } else if (powers[level][0] != 0) {
                numbers.divide(terms[level], powers[level], terms[level]);
            } else if (hole < 0) {
                hole = joinPlaces[level];
            }
        }

        private void endTerm() {
            numbers.combine(sums[level], 1, terms[level], minus[level] ? -1 : 1, sums[level]);
            numbers.constant(1, terms[level]);
            joins[level] = '*';
        }
    }

    /**
     * The one reduced basis of all rows by which parts vanish to an order. While it is built, row i
     * has its pivot in place i, so that its height is the degree there and the lift together, and 1
     * stays in front of the highest power there, as only multiples of lower rows are taken from it.
     */
    private static final class Basis {
        /** No height is above 32 + 9, so no degree on the way is. */
        private static final int WIDTH = 42;

        private final Numbers numbers;
        private final int[][] rows = new int[MOST_CHOSEN][MOST_CHOSEN * WIDTH];
        private final int[][] rests = new int[MOST_CHOSEN][TERMS];
        private final int[] degrees = new int[MOST_CHOSEN];
        private final int[] partLifts = new int[MOST_CHOSEN];
        private int size;

        private Basis(Numbers numbers) {
            this.numbers = numbers;
        }

        private void build(int[][] parts, int[] lifts, int m, int order) {
            size = Math.min(m, MOST_CHOSEN);
            for (int i = 0; i < size; i++) {
                Arrays.fill(rows[i], 0);
                rows[i][i * WIDTH] = 1;
                System.arraycopy(parts[i], 0, rests[i], 0, TERMS);
                degrees[i] = 0;
                partLifts[i] = lifts[i];
            }
            for (int k = 0; k < order && k < TERMS; k++) {
                clearTerm(k);
            }
            for (int i = 0; i < size; i++) {
                reduce(i);
            }
        }

        private int height(int i) {
            return degrees[i] + partLifts[i];
        }

        private int coefficient(int i, int j, int k) {
            return rows[i][j * WIDTH + k];
        }

        private int allDegrees() {
            int together = 0;
            for (int i = 0; i < size; i++) {
                together += degrees[i];
            }
            return together;
        }

        private int leastRow() {
            int least = 0;
            for (int i = 1; i < size; i++) {
                if (height(i) < height(least)) {
                    least = i;
                }
            }
            return least;
        }

        private int greatestHeight() {
            int greatest = 0;
            for (int i = 0; i < size; i++) {
                greatest = Math.max(greatest, height(i));
            }
            return greatest;
        }

        /**
         * Of the rows with something at x^k the one of least height, the first of like ones, clears
         * the others: its multiples leave their pivots where they are. It is cleared by x itself.
         */
        private void clearTerm(int k) {
            int least = -1;
            for (int i = 0; i < size; i++) {
                if (rests[i][k] != 0 && (least < 0 || height(i) < height(least))) {
                    least = i;
                }
            }
            if (least < 0) {
                return;
            }
            int one = numbers.reciprocal(rests[least][k]);
            for (int i = 0; i < size; i++) {
                if (i != least && rests[i][k] != 0) {
                    subtract(i, numbers.taken(rests[i][k] * one), least, 0);
                }
            }
            raise(least);
        }

        private void raise(int i) {
            for (int j = 0; j < size; j++) {
                System.arraycopy(rows[i], j * WIDTH, rows[i], j * WIDTH + 1, WIDTH - 1);
                rows[i][j * WIDTH] = 0;
            }
            System.arraycopy(rests[i], 0, rests[i], 1, TERMS - 1);
            rests[i][0] = 0;
            degrees[i]++;
        }

        /** Takes times x^up times another row from row i. */
        private void subtract(int i, int times, int other, int up) {
            for (int j = 0; j < size; j++) {
                for (int k = up; k < WIDTH; k++) {
                    int v = rows[i][j * WIDTH + k] - times * rows[other][j * WIDTH + k - up];
                    rows[i][j * WIDTH + k] = numbers.taken(v);
                }
            }
            for (int k = up; k < TERMS; k++) {
                rests[i][k] = numbers.taken(rests[i][k] - times * rests[other][k - up]);
            }
        }

        /** By falling height and place: what a multiple of a row brings in lies below what it clears. */
        private void reduce(int i) {
            for (int h = height(i); h >= 0; h--) {
                for (int j = size - 1; j >= 0; j--) {
                    int k = h - partLifts[j];
                    if (j != i && k >= degrees[j] && k < WIDTH && coefficient(i, j, k) != 0) {
                        subtract(i, coefficient(i, j, k), j, k - degrees[j]);
                    }
                }
            }
        }
    }

    /** One of the three rows. */
    private static final class Sheet {
        private static final int BYTES = 0, INTS = 1, ROOM = 40;

        private final int[] kept = new int[ROOM];
        private int sort;
        private int size = -1;

        private boolean isMissing() {
            return size < 0;
        }

        private void begin(int ofSort, int n) {
            sort = ofSort;
            size = n;
            Arrays.fill(kept, 0);
        }

        private boolean hasPlaces(int i, int n) {
            return i >= 0 && n >= 0 && n <= size - i;
        }

        private int numberOrZero(int i) {
            return i >= 0 && i < size && i < ROOM ? kept[i] : 0;
        }

        private void keep(int i, int v) {
            if (i >= 0 && i < ROOM) {
                kept[i] = sort == BYTES ? (byte) v : v;
            }
        }
    }

    /**
     * The certificates that are kept. Each object has a ledger of its own: one for all objects, as
     * the document tells it, would be static state, which rule 5 of LANGUAGE.md rules out.
     */
    private static final class Ledger {
        private static final int ROOM = 8;

        private final Place[] places = new Place[ROOM];
        private int given;

        private Ledger() {
            for (int i = 0; i < ROOM; i++) {
                places[i] = new Place();
            }
        }

        private int size() {
            int kept = 0;
            for (int i = 0; i < ROOM; i++) {
                kept += places[i].kept ? 1 : 0;
            }
            return kept;
        }

        private Place freePlace() {
            for (int i = 0; i < ROOM; i++) {
                if (!places[i].kept) {
                    return places[i];
                }
            }
            return null;
        }

        private Place find(int number) {
            for (int i = 0; i < ROOM; i++) {
                if (places[i].kept && places[i].number == number) {
                    return places[i];
                }
            }
            return null;
        }

        private int giveNumber(Place place) {
            place.kept = true;
            place.number = given;
            given++;
            return place.number;
        }

        /** Numbers grow as certificates come, so the i-th has i lower ones. */
        private int numberInTurn(int turn) {
            for (int i = 0; i < ROOM; i++) {
                if (places[i].kept && lowerThan(places[i].number) == turn) {
                    return places[i].number;
                }
            }
            return NONE;
        }

        private int lowerThan(int number) {
            int lower = 0;
            for (int i = 0; i < ROOM; i++) {
                lower += places[i].kept && places[i].number < number ? 1 : 0;
            }
            return lower;
        }
    }

    /** Where a ledger keeps one certificate; used anew when that is struck, so that a guess makes no object. */
    private static final class Place {
        private static final int WIDTH = MOST_HEIGHT + 1;

        private final int[][] coefficients = new int[MOST_CHOSEN][WIDTH];
        private boolean kept;
        private int number;
        private int kind;
        private int polynomials;
        private int used;
        private int height;
        private int holds;
        private int p;

        private void keepRow(Basis basis, int row) {
            polynomials = basis.size;
            height = basis.height(row);
            holds = Numbers.leadingZeros(basis.rests[row]);
            for (int j = 0; j < polynomials && j < MOST_CHOSEN; j++) {
                for (int k = 0; k < WIDTH; k++) {
                    coefficients[j][k] = basis.coefficient(row, j, k);
                }
            }
        }

        private int coefficient(int j, int k) {
            boolean there = j >= 0 && j < polynomials && j < MOST_CHOSEN && k >= 0 && k < WIDTH;
            return there ? coefficients[j][k] : 0;
        }

        private void copyPolynomial(int j, int[] to) {
            Arrays.fill(to, 0);
            for (int k = 0; k < WIDTH; k++) {
                to[k] = coefficient(j, k);
            }
        }
    }
}
