import java.util.ArrayList;
import java.util.Arrays;
import java.util.List;

/**
 * A second program for the same document, made by other ways, for tests that compare: texts by
 * descent in two rounds, the basis monomial by monomial with linear algebra.
 */
final class Twin {
    private static final class Kept {
        int number;
        int kind;
        int used;
        int height;
        int holds;
        int p;
        long[][] row;
    }

    /** A basis: row i, polynomial j, power k. */
    static final class Rows {
        long[][][] of;
        int[] degrees;
        int[] heights;
    }

    int p = 97;
    final long[][] series = new long[6][32];
    private StringBuilder tape = new StringBuilder();
    private final int[][] sheets = new int[3][];
    private final int[] sorts = new int[3];
    private int set = 1;
    private final int[] lifts = new int[6];
    private int order = 8;
    private final List<Kept> ledger = new ArrayList<>();
    private int given = 0;

    // arithmetic

    private long by(long v) {
        return ((v % p) + p) % p;
    }

    private long under(long v) {
        for (long w = 1; w < p; w++) {
            if (v * w % p == 1) {
                return w;
            }
        }
        throw new AssertionError("no number under 0");
    }

    private long[] product(long[] a, long[] b) {
        long[] c = new long[32];
        for (int i = 0; i < 32; i++) {
            for (int j = 0; i + j < 32 && j < b.length; j++) {
                c[i + j] = by(c[i + j] + a[i] * b[j]);
            }
        }
        return c;
    }

    private long[] inverseOf(long[] a) {
        long[] left = new long[32];
        left[0] = 1;
        long[] b = new long[32];
        long u = under(a[0]);
        for (int k = 0; k < 32; k++) {
            b[k] = by(left[k] * u);
            for (int i = 0; i + k < 32; i++) {
                left[k + i] = by(left[k + i] - b[k] * a[i]);
            }
        }
        return b;
    }

    private static int leading(long[] a) {
        int k = 0;
        while (k < 32 && a[k] == 0) {
            k++;
        }
        return k;
    }

    private long[] summed(long[][] polys, long[][] f) {
        long[] sum = new long[32];
        for (int j = 0; j < f.length; j++) {
            long[] c = product(f[j], polys[j]);
            for (int k = 0; k < 32; k++) {
                sum[k] = by(sum[k] + c[k]);
            }
        }
        return sum;
    }

    // the basis: monomials x^k in place j by rising (k + shift, j); one that is a sum of earlier
    // free ones gives a row, its multiples give none.

    Rows rowsOf(long[][] f, int[] shifts, int n) {
        int m = f.length;
        Rows rows = new Rows();
        rows.of = new long[m][m][64];
        rows.degrees = new int[m];
        rows.heights = new int[m];
        boolean[] found = new boolean[m];
        List<long[]> values = new ArrayList<>();
        List<long[][]> combos = new ArrayList<>();
        for (int h = 0; h <= 41; h++) {
            for (int j = 0; j < m; j++) {
                int k = h - shifts[j];
                if (k < 0 || found[j]) {
                    continue;
                }
                long[] value = new long[n];
                for (int i = k; i < n; i++) {
                    value[i] = f[j][i - k];
                }
                long[][] combo = new long[m][64];
                combo[j][k] = 1;
                for (int e = 0; e < values.size(); e++) {
                    long[] v = values.get(e);
                    int lead = 0;
                    while (v[lead] == 0) {
                        lead++;
                    }
                    if (value[lead] == 0) {
                        continue;
                    }
                    long times = by(value[lead] * under(v[lead]));
                    for (int i = 0; i < n; i++) {
                        value[i] = by(value[i] - times * v[i]);
                    }
                    for (int a = 0; a < m; a++) {
                        for (int b = 0; b < 64; b++) {
                            combo[a][b] = by(combo[a][b] - times * combos.get(e)[a][b]);
                        }
                    }
                }
                boolean zero = true;
                for (long v : value) {
                    zero = zero && v == 0;
                }
                if (zero) {
                    found[j] = true;
                    rows.of[j] = combo;
                    rows.degrees[j] = k;
                    rows.heights[j] = h;
                } else {
                    values.add(value);
                    combos.add(combo);
                }
            }
        }
        for (boolean is : found) {
            if (!is) {
                throw new AssertionError("a row is missing");
            }
        }
        return rows;
    }

    private static int least(Rows rows) {
        int least = 0;
        for (int i = 1; i < rows.heights.length; i++) {
            if (rows.heights[i] < rows.heights[least]) {
                least = i;
            }
        }
        return least;
    }

    private long[][] chosenSeries() {
        long[][] f = new long[Integer.bitCount(set)][];
        int m = 0;
        for (int s = 0; s < 6; s++) {
            if ((set >> s & 1) == 1) {
                f[m++] = series[s];
            }
        }
        return f;
    }

    private Rows chosenRows() {
        int[] shifts = new int[4];
        int m = 0;
        for (int s = 0; s < 6; s++) {
            if ((set >> s & 1) == 1) {
                shifts[m++] = lifts[s];
            }
        }
        return rowsOf(chosenSeries(), shifts, order);
    }

    // the face

    private static boolean no(int i, int below) {
        return i < 0 || i >= below;
    }

    int field(int q) {
        if (q > 997 || q < 2 || !java.math.BigInteger.valueOf(q).isProbablePrime(40)) {
            return -1;
        }
        int was = p;
        p = q;
        for (long[] s : series) {
            Arrays.fill(s, 0);
        }
        return was;
    }

    int term(int s, int k, int v) {
        if (no(s, 6) || no(k, 32)) {
            return -1;
        }
        long was = series[s][k];
        series[s][k] = by(v);
        return (int) was;
    }

    int at(int s, int k) {
        return no(s, 6) || no(k, 32) ? -1 : (int) series[s][k];
    }

    private int become(int to, long[] a) {
        series[to] = a.clone();
        return 1;
    }

    int mix(int one, int a, int other, int b, int to) {
        if (no(one, 6) || no(other, 6) || no(to, 6)) {
            return -1;
        }
        long[] c = new long[32];
        for (int k = 0; k < 32; k++) {
            c[k] = by(by(a) * series[one][k] + by(b) * series[other][k]);
        }
        return become(to, c);
    }

    int times(int one, int other, int to) {
        if (no(one, 6) || no(other, 6) || no(to, 6)) {
            return -1;
        }
        return become(to, product(series[one], series[other]));
    }

    int inverse(int one, int to) {
        if (no(one, 6) || no(to, 6)) {
            return -1;
        }
        return series[one][0] == 0 ? -2 : become(to, inverseOf(series[one]));
    }

    private long[] weighed(long[] a) {
        long[] c = new long[32];
        for (int k = 0; k < 32; k++) {
            c[k] = by(k * a[k]);
        }
        return c;
    }

    int weigh(int one, int to) {
        return no(one, 6) || no(to, 6) ? -1 : become(to, weighed(series[one]));
    }

    int shift(int one, int k, int to) {
        if (no(one, 6) || no(k, 32) || no(to, 6)) {
            return -1;
        }
        long[] x = new long[32];
        x[k] = 1;
        return become(to, product(series[one], x));
    }

    int feed(int n, int word) {
        if (n < 1 || n > 4) {
            return -1;
        }
        if (tape.length() + n > 80) {
            return -4;
        }
        for (int i = 0; i < n; i++) {
            tape.append((char) (word >> 8 * i & 0xff));
        }
        return tape.length();
    }

    // texts: first only looked at, then worked out

    private static final class Stop extends RuntimeException {
        private static final long serialVersionUID = 1;
        final int place;

        Stop(int place) {
            super("stop", null, false, false);
            this.place = place;
        }
    }

    private String words;
    private int here;
    private boolean working;

    int text(int s) {
        if (no(s, 6)) {
            return -1;
        }
        words = tape.toString();
        tape = new StringBuilder();
        try {
            working = false;
            here = 0;
            readSum(0);
            if (peek() != 'E') {
                throw new Stop(here);
            }
        } catch (Stop stop) {
            return -100 - stop.place;
        }
        try {
            working = true;
            here = 0;
            return become(s, readSum(0));
        } catch (Stop stop) {
            return -200 - stop.place;
        }
    }

    /** What stands next: a sign, N a number, E the end, W a wrong one; here is its place. */
    private char peek() {
        while (here < words.length() && words.charAt(here) == ' ') {
            here++;
        }
        if (here == words.length()) {
            return 'E';
        }
        char c = words.charAt(here);
        if (c >= '0' && c <= '9') {
            return digits() <= 4 ? 'N' : 'W';
        }
        return "x+-*/^()".indexOf(c) >= 0 ? c : 'W';
    }

    private int digits() {
        int n = 0;
        while (here + n < words.length() && words.charAt(here + n) >= '0' && words.charAt(here + n) <= '9') {
            n++;
        }
        return n;
    }

    private int readNumber() {
        int n = digits();
        int v = Integer.parseInt(words.substring(here, here + n));
        here += n;
        return v;
    }

    private long[] readSum(int open) {
        long sign = 1;
        if (peek() == '-') {
            here++;
            sign = -1;
        }
        long[] sum = new long[32];
        while (true) {
            long[] t = readTerm(open);
            for (int k = 0; k < 32; k++) {
                sum[k] = by(sum[k] + sign * t[k]);
            }
            char c = peek();
            if (c != '+' && c != '-') {
                return sum;
            }
            sign = c == '+' ? 1 : -1;
            here++;
        }
    }

    private long[] readTerm(int open) {
        long[] t = readPower(open);
        while (peek() == '*' || peek() == '/') {
            char c = peek();
            int place = here;
            here++;
            long[] q = readPower(open);
            if (!working) {
                continue;
            }
            if (c == '/' && q[0] == 0) {
                throw new Stop(place);
            }
            t = product(t, c == '/' ? inverseOf(q) : q);
        }
        return t;
    }

    private long[] readPower(int open) {
        long[] a = readAtom(open);
        if (peek() != '^') {
            return a;
        }
        here++;
        int place = here;
        if (peek() != 'N') {
            throw new Stop(here);
        }
        place = here;
        int e = readNumber();
        if (e > 40) {
            throw new Stop(place);
        }
        long[] c = new long[32];
        c[0] = 1;
        for (int i = 0; i < e && working; i++) {
            c = product(c, a);
        }
        return c;
    }

    private long[] readAtom(int open) {
        long[] a = new long[32];
        char c = peek();
        if (c == 'x') {
            here++;
            a[1] = 1;
        } else if (c == 'N') {
            a[0] = by(readNumber());
        } else if (c == '(' && open < 4) {
            here++;
            a = readSum(open + 1);
            if (peek() != ')') {
                throw new Stop(here);
            }
            here++;
        } else {
            throw new Stop(here);
        }
        return a;
    }

    int zeros(int s) {
        return no(s, 6) ? -1 : leading(series[s]);
    }

    int choose(int bits) {
        if (bits <= 0 || bits > 63 || Integer.bitCount(bits) > 4) {
            return -1;
        }
        set = bits;
        return Integer.bitCount(bits);
    }

    int lift(int s, int by) {
        if (no(s, 6) || no(by, 10)) {
            return -1;
        }
        int was = lifts[s];
        lifts[s] = by;
        return was;
    }

    int order(int n) {
        if (n < 1 || n > 32) {
            return -1;
        }
        int was = order;
        order = n;
        return was;
    }

    int told(int what) {
        if (no(what, 6)) {
            return -1;
        }
        Rows rows = chosenRows();
        int greatest = 0;
        int degrees = 0;
        for (int i = 0; i < rows.heights.length; i++) {
            greatest = Math.max(greatest, rows.heights[i]);
            degrees += rows.degrees[i];
        }
        int[] all = {rows.heights.length, order, degrees, rows.heights[least(rows)], greatest, least(rows)};
        return all[what];
    }

    int row(int i, int what) {
        if (no(i, Integer.bitCount(set)) || no(what, 3)) {
            return -1;
        }
        Rows rows = chosenRows();
        int[] all = {rows.degrees[i], rows.heights[i], leading(summed(rows.of[i], chosenSeries()))};
        return all[what];
    }

    int entry(int i, int j, int k) {
        int m = Integer.bitCount(set);
        return no(i, m) || no(j, m) || no(k, 33) ? -1 : (int) chosenRows().of[i][j][k];
    }

    int rest(int i, int k) {
        if (no(i, Integer.bitCount(set)) || no(k, 32)) {
            return -1;
        }
        return (int) summed(chosenRows().of[i], chosenSeries())[k];
    }

    int comes(int i, int to) {
        if (no(i, Integer.bitCount(set)) || no(to, 6)) {
            return -1;
        }
        return become(to, summed(chosenRows().of[i], chosenSeries()));
    }

    int relates(int row) {
        if (no(row, 3)) {
            return -1;
        }
        if (sheets[row] == null) {
            return -11;
        }
        int m = Integer.bitCount(set);
        long[][] polys = new long[m][8];
        boolean some = false;
        for (int i = 0; i < 8 * m && i < sheets[row].length; i++) {
            polys[i / 8][i % 8] = by(sheets[row][i]);
            some = some || by(sheets[row][i]) != 0;
        }
        return some && leading(summed(polys, chosenSeries())) >= order ? 1 : 0;
    }

    // guesses

    private long[][] kindSeries(int kind, int m, long[] a) {
        long[][] f = new long[m][32];
        f[0][0] = 1;
        if (kind == 2) {
            f[0] = a;
        }
        for (int j = 1; j < m; j++) {
            f[j] = kind == 2 ? weighed(f[j - 1]) : product(f[j - 1], a);
        }
        return f;
    }

    int guess(int s, int kind, int r, int used, int high) {
        if (no(s, 6) || no(kind, 3) || kind != 0 && no(r - 1, 3) || no(used - 1, 32) || no(high, 10)) {
            return -1;
        }
        if (ledger.size() >= 8) {
            return -4;
        }
        long[][] f = kindSeries(kind, kind == 0 ? 2 : r + 1, series[s]);
        Rows rows = rowsOf(f, new int[4], used);
        int best = least(rows);
        if (rows.heights[best] > high) {
            return -3;
        }
        Kept kept = new Kept();
        kept.number = given++;
        kept.kind = kind;
        kept.used = used;
        kept.height = rows.heights[best];
        kept.row = rows.of[best];
        kept.holds = leading(summed(kept.row, f));
        kept.p = p;
        ledger.add(kept);
        return kept.number;
    }

    private Kept find(int number) {
        for (Kept kept : ledger) {
            if (kept.number == number) {
                return kept;
            }
        }
        return null;
    }

    int certificate(int number, int what) {
        if (no(what, 6)) {
            return -1;
        }
        Kept c = find(number);
        if (c == null) {
            return -3;
        }
        int[] all = {c.kind, c.row.length, c.used, c.height, c.holds, c.p};
        return all[what];
    }

    int proof(int number, int j, int k) {
        Kept c = find(number);
        if (c == null) {
            return -3;
        }
        return no(j, c.row.length) || no(k, 10) ? -1 : (int) c.row[j][k];
    }

    int test(int number, int s) {
        if (no(s, 6)) {
            return -1;
        }
        Kept c = find(number);
        if (c == null) {
            return -3;
        }
        return c.p != p ? -2 : leading(summed(c.row, kindSeries(c.kind, c.row.length, series[s])));
    }

    int toldOn(int number, int to) {
        if (no(to, 6)) {
            return -1;
        }
        Kept c = find(number);
        if (c == null) {
            return -3;
        }
        if (c.kind != 0 || c.p != p || c.row[1][0] == 0) {
            return -2;
        }
        long[] under = inverseOf(Arrays.copyOf(c.row[1], 32));
        long[] minus = new long[32];
        for (int k = 0; k < 32; k++) {
            minus[k] = by(-c.row[0][k]);
        }
        return become(to, product(under, minus));
    }

    int strike(int number) {
        Kept c = find(number);
        if (c == null) {
            return -3;
        }
        ledger.remove(c);
        return ledger.size();
    }

    int listed(int i) {
        return no(i, ledger.size()) ? -3 : ledger.get(i).number;
    }

    // rows

    int sheet(int row, int sort, int n) {
        if (no(row, 3) || no(sort, 2) || n > 40) {
            return -1;
        }
        if (n < 0) {
            return -14;
        }
        sheets[row] = new int[n];
        sorts[row] = sort;
        return 1;
    }

    private int stored(int row, int v) {
        return sorts[row] == 0 ? (byte) v : v;
    }

    int put(int row, int i, int v) {
        if (no(row, 3)) {
            return -1;
        }
        if (sheets[row] == null) {
            return -11;
        }
        if (no(i, sheets[row].length)) {
            return -12;
        }
        sheets[row][i] = stored(row, v);
        return 1;
    }

    int get(int row, int i) {
        if (no(row, 3)) {
            throw new IllegalArgumentException();
        }
        if (sheets[row] == null) {
            throw new IllegalStateException();
        }
        if (no(i, sheets[row].length)) {
            throw new IndexOutOfBoundsException();
        }
        return sheets[row][i];
    }

    int move(int row, int i, int other, int j, int n) {
        if (no(row, 3) || no(other, 3)) {
            return -1;
        }
        if (sheets[row] == null || sheets[other] == null) {
            return -11;
        }
        if (sorts[row] != sorts[other]) {
            return -13;
        }
        long end = (long) i + n;
        long otherEnd = (long) j + n;
        if (i < 0 || j < 0 || n < 0 || end > sheets[row].length || otherEnd > sheets[other].length) {
            return -12;
        }
        int[] were = sheets[row].clone();
        for (int k = 0; k < n; k++) {
            sheets[other][j + k] = were[i + k];
        }
        return n;
    }

    int loads(int s, int row) {
        if (no(s, 6) || no(row, 3)) {
            return -1;
        }
        if (sheets[row] == null) {
            return -11;
        }
        long[] c = new long[32];
        int n = 0;
        for (int k = 0; k < 32 && k < sheets[row].length; k++) {
            c[k] = by(sheets[row][k]);
            n++;
        }
        become(s, c);
        return n;
    }

    int spills(int s, int row) {
        if (no(s, 6) || no(row, 3)) {
            return -1;
        }
        if (sheets[row] == null) {
            return -11;
        }
        int n = 0;
        for (int k = 0; k < 32 && k < sheets[row].length; k++) {
            sheets[row][k] = stored(row, (int) series[s][k]);
            n++;
        }
        return n;
    }

    int count(int what) {
        int there = 0;
        for (int[] sheet : sheets) {
            there += sheet == null ? 0 : 1;
        }
        int some = 0;
        for (int s = 0; s < 6; s++) {
            some |= leading(series[s]) < 32 ? 1 << s : 0;
        }
        int[] all = {p, tape.length(), ledger.size(), there, given, set, some};
        return no(what, 7) ? -1 : all[what];
    }
}
