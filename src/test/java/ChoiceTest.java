/** Promises 13 to 21: the choice and its basis. */
public final class ChoiceTest {
    public static void main(String[] args) {
        choose();
        lift();
        order();
        rational();
        ties();
        shifted();
        one();
        wrong();
        comes();
        relates();
        follows();
        manyBases();
        Check.ending("ChoiceTest");
    }

    private static void choose() {
        HiddenRelations x = new HiddenRelations();
        for (int set = -3; set < 130; set++) {
            int m = Integer.bitCount(set);
            boolean good = set > 0 && set < 64 && m <= 4;
            Check.due("choose(" + set + ")", x.choose(set), good ? m : -1);
            if (good) {
                Check.due("the set", x.count(5), set);
                Check.due("told(0)", x.told(0), m);
            }
        }
        Check.due("choose least", x.choose(Integer.MIN_VALUE), -1);
        Check.due("choose(65)", x.choose(65), -1);
        Check.due("the set stays", x.count(5), 60);
    }

    private static void lift() {
        HiddenRelations x = new HiddenRelations();
        x.choose(2);
        x.term(1, 0, 1);
        for (int s = 0; s < 6; s++) {
            Check.due("lift", x.lift(s, 9), 0);
            Check.due("lift again", x.lift(s, s), 9);
        }
        Check.due("height", x.row(0, 1), 9);
        x.choose(1);
        x.choose(2);
        Check.due("kept over choices", x.row(0, 1), 9);
        Check.due("lift bad", x.lift(6, 0), -1);
        Check.due("lift bad", x.lift(-1, 0), -1);
        Check.due("lift(1, -1)", x.lift(1, -1), -1);
        Check.due("lift(1, 10)", x.lift(1, 10), -1);
        Check.due("stays", x.lift(1, 0), 1);
    }

    private static void order() {
        HiddenRelations x = new HiddenRelations();
        x.term(0, 0, 5);
        int was = 8;
        for (int n = 1; n <= 32; n++) {
            Check.due("order", x.order(n), was);
            was = n;
            Check.due("told(1)", x.told(1), n);
            Check.due("x^n", x.row(0, 0), n);
            Check.due("1 in front of it", x.entry(0, 0, n), 1);
            Check.due("nothing ahead of it", x.entry(0, 0, n - 1), 0);
            Check.due("its zeros", x.row(0, 2), n);
        }
        Check.due("order(0)", x.order(0), -1);
        Check.due("order(33)", x.order(33), -1);
        Check.due("order(-1)", x.order(-1), -1);
        Check.due("stays", x.told(1), 32);
    }

    /** 1/(1-x) and 1, by hand. */
    private static void rational() {
        HiddenRelations x = new HiddenRelations();
        Check.text(x, "1/(1-x)", 2);
        Check.text(x, "1", 4);
        x.choose(20);
        x.order(6);
        // (x - 1) f_0 + f_1 = 0 has height 1, pivot 0; so the other row has degree 5
        Check.due("degrees together", x.told(2), 6);
        Check.due("least height", x.told(3), 1);
        Check.due("greatest height", x.told(4), 5);
        Check.due("its number", x.told(5), 0);
        Check.due("degree of B_0", x.row(0, 0), 1);
        Check.due("height of B_0", x.row(0, 1), 1);
        Check.due("zeros by B_0", x.row(0, 2), 32);
        Check.due("degree of B_1", x.row(1, 0), 5);
        Check.due("zeros by B_1", x.row(1, 2), 6);
        int[][] want = {{96, 1}, {1}, {96}, {1, 1, 1, 1, 1, 1}};
        for (int i = 0; i < 2; i++) {
            for (int j = 0; j < 2; j++) {
                for (int k = 0; k <= 32; k++) {
                    int[] w = want[2 * i + j];
                    Check.due("entry(" + i + ", " + j + ", " + k + ")", x.entry(i, j, k), k < w.length ? w[k] : 0);
                }
            }
        }
        // by B_1: 1 + .. + x^5 less 1/(1-x)
        for (int k = 0; k < 32; k++) {
            Check.due("rest(0, " + k + ")", x.rest(0, k), 0);
            Check.due("rest(1, " + k + ")", x.rest(1, k), k < 6 ? 0 : 96);
        }
    }

    /** Of like heights the pivot is the greatest place. */
    private static void ties() {
        HiddenRelations x = new HiddenRelations();
        x.term(0, 0, 1);
        x.term(1, 0, 3);
        x.choose(3);
        x.order(1);
        // 1 and 3: the row -3 f_0 + f_1 has both degrees 0: its pivot is place 1
        Check.due("pivot 1", x.row(1, 0), 0);
        Check.due("1 there", x.entry(1, 1, 0), 1);
        Check.due("-3", x.entry(1, 0, 0), 94);
        Check.due("x f_0", x.row(0, 0), 1);
        Check.due("nothing of f_1", x.entry(0, 1, 0), 0);
        Check.due("first least", x.told(5), 1);
        x.order(32);
        Check.due("B_0 is x^32", x.row(0, 0), 32);
        Check.due("entry at 32", x.entry(0, 0, 32), 1);
        Check.due("entry behind", x.entry(0, 0, 33), -1);
        x.mix(0, 0, 1, 0, 0);
        x.mix(0, 0, 1, 0, 1);
        Check.due("of like rows the first", x.told(5), 0);
        Check.due("of nothing all", x.told(2), 0);
        Check.due("the greatest too", x.told(4), 0);
        Check.due("all zeros", x.row(1, 2), 32);
    }

    private static void shifted() {
        HiddenRelations x = new HiddenRelations();
        x.term(0, 0, 1);
        x.term(1, 0, 3);
        x.choose(3);
        x.order(1);
        x.lift(1, 1);
        // now x f_0 and -3 f_0 + f_1 have height 1
        Check.due("B_0", x.row(0, 1), 1);
        Check.due("B_1", x.row(1, 1), 1);
        Check.due("least", x.told(5), 0);
        x.lift(0, 1);
        x.lift(1, 0);
        // f_1 is now lower: x f_1 (height 1, pivot 1), f_0 - 1/3 f_1 (height 1, pivot 0)
        Check.due("degree of B_0", x.row(0, 0), 0);
        Check.due("height of B_0", x.row(0, 1), 1);
        Check.due("f_0 - 1/3 f_1", x.entry(0, 1, 0), 32);
        Check.due("degree of B_1", x.row(1, 0), 1);
        Check.due("x f_1", x.entry(1, 1, 1), 1);
        x.lift(0, 9);
        x.lift(1, 0);
        Check.text(x, "1/(1-x)", 0);
        Check.text(x, "1+5*x^9+x^20+x^31", 1);
        x.order(32);
        Check.due("height", x.row(0, 1), 9 + x.row(0, 0));
        Check.due("greatest", x.told(4), Math.max(x.row(0, 1), x.row(1, 1)));
        Check.due("together", x.told(2), 32);
    }

    private static void one() {
        HiddenRelations x = new HiddenRelations();
        x.term(0, 5, 3);
        Check.due("x^3", x.row(0, 0), 3);
        Check.due("1 in front", x.entry(0, 0, 3), 1);
        Check.due("rest", x.rest(0, 8), 3);
        Check.due("the basis follows its series", x.term(0, 2, 1), 0);
        Check.due("x^6", x.row(0, 0), 6);
        x.shift(0, 6, 0);
        Check.due("nothing to do", x.row(0, 0), 0);
        x.field(3);
        Check.due("zeros", x.row(0, 2), 32);
    }

    private static void wrong() {
        HiddenRelations x = new HiddenRelations();
        x.choose(3);
        int[] none = {-1, 2, 3, 4, Integer.MIN_VALUE, Integer.MAX_VALUE};
        for (int i : none) {
            Check.due("row(i)", x.row(i, 0), -1);
            Check.due("entry(i)", x.entry(i, 0, 0), -1);
            Check.due("entry(j)", x.entry(0, i, 0), -1);
            Check.due("rest(i)", x.rest(i, 0), -1);
            Check.due("comes(i)", x.comes(i, 0), -1);
        }
        Check.due("row what", x.row(0, -1), -1);
        Check.due("row what", x.row(0, 3), -1);
        Check.due("told what", x.told(-1), -1);
        Check.due("told what", x.told(6), -1);
        Check.due("entry k", x.entry(0, 0, -1), -1);
        Check.due("entry k", x.entry(0, 0, 33), -1);
        Check.due("rest k", x.rest(0, -1), -1);
        Check.due("rest k", x.rest(0, 32), -1);
        Check.due("comes to", x.comes(0, 6), -1);
        Check.due("comes to", x.comes(0, -1), -1);
        x.choose(15);
        Check.due("entry(3, 3, 32)", x.entry(3, 3, 32), 0);
        Check.due("entry(3, 4, 0)", x.entry(3, 4, 0), -1);
    }

    private static void comes() {
        HiddenRelations x = new HiddenRelations();
        Check.text(x, "1+x", 0);
        x.order(4);
        Check.due("x^4 f_0", x.comes(0, 5), 1);
        Check.terms("x^4 f_0", x, 5, 0, 0, 0, 0, 1, 1);
        Check.due("to a chosen one", x.comes(0, 0), 1);
        Check.terms("to a chosen one", x, 0, 0, 0, 0, 0, 1, 1);
        Check.due("the basis is of the new one", x.row(0, 0), 0);
    }

    private static void relates() {
        HiddenRelations x = new HiddenRelations();
        Check.due("relates(-1)", x.relates(-1), -1);
        Check.due("relates(3)", x.relates(3), -1);
        Check.due("relates missing", x.relates(1), -11);
        Check.text(x, "1/(1-x)", 0);
        Check.text(x, "1+x^7", 1);
        x.choose(3);
        x.sheet(1, 1, 16);
        Check.due("nothing but 0", x.relates(1), 0);
        x.put(1, 0, 97);
        x.put(1, 8, -97);
        Check.due("nothing but 0 by p", x.relates(1), 0);
        // (x - 1) f_0 + f_1 = x^7
        x.put(1, 0, -1);
        x.put(1, 1, 1 + 97);
        x.put(1, 8, 1);
        x.order(7);
        Check.due("7 terms", x.relates(1), 1);
        x.order(8);
        Check.due("8 terms", x.relates(1), 0);
        x.order(7);
        x.put(1, 9, 1);
        Check.due("another row", x.relates(1), 0);
        x.put(1, 9, 0);
        x.put(1, 15, 1);
        Check.due("x^7 f_1", x.relates(1), 1);
        x.order(8);
        x.put(1, 15, -1);
        Check.due("- x^7 f_1", x.relates(1), 1);
        x.term(1, 7, 0);
        x.put(1, 15, 0);
        x.order(32);
        Check.due("all terms", x.relates(1), 1);
        x.term(1, 7, 1);
        x.sheet(2, 1, 9);
        x.move(1, 0, 2, 0, 9);
        x.order(7);
        Check.due("a short row", x.relates(2), 1);
        x.sheet(0, 1, 40);
        x.put(0, 16, 1);
        Check.due("beyond m", x.relates(0), 0);
        x.move(1, 0, 0, 0, 9);
        Check.due("beyond m does not matter", x.relates(0), 1);
        x.choose(7);
        Check.due("now it stands with a series of 0", x.relates(0), 1);
        x.term(2, 0, 1);
        Check.due("now it matters", x.relates(0), 0);
        x.sheet(2, 0, 0);
        Check.due("a row of no numbers", x.relates(2), 0);
        x.choose(60);
        x.sheet(0, 0, 40);
        x.put(0, 31, 1);
        Check.due("the last place that is read", x.relates(0), 1);
        x.put(0, 31, 0);
        x.put(0, 32, 1);
        Check.due("the first that is not", x.relates(0), 0);
    }

    /** That the basis is of the series and the choice as they are, behind each call that changes them. */
    private static void follows() {
        HiddenRelations x = new HiddenRelations();
        x.order(32);
        x.term(1, 3, 1);
        x.term(2, 0, 1);
        x.term(2, 7, 1);
        zerosOf(x, "term", x.term(0, 5, 1), 5);
        zerosOf(x, "mix", x.mix(1, 1, 1, 1, 0), 3);
        zerosOf(x, "times", x.times(1, 0, 0), 6);
        zerosOf(x, "inverse", x.inverse(2, 0), 0);
        zerosOf(x, "shift", x.shift(0, 2, 0), 2);
        x.term(0, 2, 97);
        Check.due("nothing of x^2", x.zeros(0), 9);
        x.term(0, 0, 5);
        zerosOf(x, "term at 0", x.term(0, 2, 0), 0);
        zerosOf(x, "weigh", x.weigh(0, 0), 9);
        x.feed(4, 'x' | '^' << 8 | '4' << 16 | ' ' << 24);
        zerosOf(x, "text", x.text(0), 4);
        x.order(5);
        zerosOf(x, "order", x.order(32), 4);
        zerosOf(x, "comes", x.comes(0, 0), 32);
        x.guess(2, 0, 0, 1, 9);
        zerosOf(x, "term again", x.term(0, 6, 1), 6);
        zerosOf(x, "guess", x.guess(2, 0, 0, 1, 9), 6);
        zerosOf(x, "toldOn", x.toldOn(0, 0), 0);
        x.sheet(0, 1, 9);
        x.put(0, 8, 1);
        zerosOf(x, "loads", x.loads(0, 0), 8);
        zerosOf(x, "choose", x.choose(2), 3);
        x.lift(1, 7);
        Check.due("height behind lift", x.row(0, 1), 29 + 7);
        zerosOf(x, "field", x.field(97), 32);
    }

    /** The choice is of one series, the order 32: by its zeros the basis is told. */
    private static void zerosOf(HiddenRelations x, String call, int answer, int zeros) {
        Check.holds(call + " answers", answer >= 0);
        Check.due("degree behind " + call, x.row(0, 0), 32 - zeros);
    }

    /** That the basis is what its definition says: all that the rows must be, and as many terms of it as there can be. */
    private static void manyBases() {
        java.util.Random random = new java.util.Random(5);
        int[] primes = {2, 3, 7, 97, 997};
        for (int round = 0; round < 150; round++) {
            HiddenRelations x = new HiddenRelations();
            x.field(primes[round % 5]);
            int[] series = {0, 2, 3, 5};
            int m = 1 + random.nextInt(4);
            int set = 0;
            int[] shifts = new int[m];
            for (int i = 0; i < m; i++) {
                set |= 1 << series[i];
                shifts[i] = random.nextInt(3) == 0 ? random.nextInt(10) : 0;
                x.lift(series[i], shifts[i]);
                int from = random.nextInt(5) == 0 ? random.nextInt(32) : 0;
                int step = 1 + random.nextInt(3);
                for (int k = from; k < 32; k += step) {
                    x.term(series[i], k, random.nextInt(4) == 0 ? 0 : random.nextInt());
                }
            }
            x.choose(set);
            int order = 1 + random.nextInt(32);
            x.order(order);
            oneBasis(x, m, shifts, order);
        }
    }

    private static void oneBasis(HiddenRelations x, int m, int[] shifts, int order) {
        int together = 0;
        for (int i = 0; i < m; i++) {
            int degree = x.row(i, 0);
            together += degree;
            Check.due("height", x.row(i, 1), degree + shifts[i]);
            Check.holds("a relation", x.row(i, 2) >= order);
            Check.due("1 in front", x.entry(i, i, degree), 1);
            for (int j = 0; j < m; j++) {
                for (int k = 0; k <= 32; k++) {
                    int v = x.entry(i, j, k);
                    boolean high = k + shifts[j] > degree + shifts[i] || k + shifts[j] == degree + shifts[i] && j > i;
                    Check.holds("pivot", v == 0 || !high);
                    Check.holds("reduced", i == j || v == 0 || k < x.row(j, 0));
                }
            }
        }
        Check.due("degrees together", x.told(2), together);
        Check.due("as many as the conditions", together, conditions(x, m, order));
    }

    /** The rank of the conditions on polynomials of degree below the order. */
    private static int conditions(HiddenRelations x, int m, int order) {
        int p = x.count(0);
        int[] series = {0, 2, 3, 5};
        int[][] a = new int[m * order][order];
        for (int i = 0; i < m; i++) {
            for (int k = 0; k < order; k++) {
                for (int t = k; t < order; t++) {
                    a[i * order + k][t] = x.at(series[i], t - k);
                }
            }
        }
        int rank = 0;
        for (int t = 0; t < order; t++) {
            int found = rank;
            while (found < a.length && a[found][t] == 0) {
                found++;
            }
            if (found == a.length) {
                continue;
            }
            int[] row = a[found];
            a[found] = a[rank];
            a[rank] = row;
            for (int r = rank + 1; r < a.length; r++) {
                int lead = a[r][t];
                for (int c = t; c < order; c++) {
                    a[r][c] = Math.floorMod(a[r][c] * row[t] - lead * row[c], p);
                }
            }
            rank++;
        }
        return rank;
    }
}
