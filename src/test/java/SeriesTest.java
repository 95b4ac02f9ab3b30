/** Promises 2 to 9 and 12: the field and series. */
public final class SeriesTest {
    public static void main(String[] args) {
        field();
        termAndAt();
        mix();
        times();
        inverse();
        weigh();
        shift();
        zeros();
        Check.ending("SeriesTest");
    }

    private static void field() {
        HiddenRelations x = new HiddenRelations();
        Check.due("field(2) of a new object", x.field(2), 97);
        Check.due("field(997)", x.field(997), 2);
        int[] none = {Integer.MIN_VALUE, -97, -2, -1, 0, 1, 4, 9, 561, 961, 991 + 1, 996, 998, 999, 1009, Integer.MAX_VALUE};
        for (int p : none) {
            Check.due("field(" + p + ")", x.field(p), -1);
        }
        Check.due("count(0) after refused ones", x.count(0), 997);
        int before = 997;
        for (int p = 2; p <= 997; p++) {
            boolean prime = java.math.BigInteger.valueOf(p).isProbablePrime(30);
            Check.due("field(" + p + ")", x.field(p), prime ? before : -1);
            before = prime ? p : before;
        }
        for (int s = 0; s < 6; s++) {
            x.term(s, s, 1);
        }
        Check.due("field(4)", x.field(4), -1);
        Check.due("series after a refused field", x.count(6), 63);
        Check.due("the same field anew", x.field(997), 997);
        Check.due("series after the same field anew", x.count(6), 0);
        x.choose(6);
        x.lift(1, 4);
        x.order(5);
        x.feed(1, 'x');
        x.sheet(2, 1, 1);
        x.put(2, 0, 500);
        x.guess(0, 0, 0, 1, 9);
        x.field(3);
        Check.due("choice stays", x.count(5), 6);
        Check.due("lift stays", x.lift(1, 0), 4);
        Check.due("order stays", x.told(1), 5);
        Check.due("tape stays", x.count(1), 1);
        Check.due("row stays", x.get(2, 0), 500);
        Check.due("ledger stays", x.count(2), 1);
    }

    private static void termAndAt() {
        HiddenRelations x = new HiddenRelations();
        Check.due("term(5, 31, 96)", x.term(5, 31, 96), 0);
        Check.due("term(5, 31, 97)", x.term(5, 31, 97), 96);
        Check.due("term(5, 31, -1)", x.term(5, 31, -1), 0);
        Check.due("at(5, 31)", x.at(5, 31), 96);
        Check.due("term least", x.term(0, 0, Integer.MIN_VALUE), 0);
        Check.due("at least", x.at(0, 0), Math.floorMod(Integer.MIN_VALUE, 97));
        Check.due("term greatest", x.term(0, 0, Integer.MAX_VALUE), Math.floorMod(Integer.MIN_VALUE, 97));
        Check.due("at greatest", x.at(0, 0), Math.floorMod(Integer.MAX_VALUE, 97));
        int[][] bad = {{-1, 0}, {6, 0}, {0, -1}, {0, 32}, {Integer.MIN_VALUE, 0}, {0, Integer.MAX_VALUE}};
        for (int[] b : bad) {
            Check.due("term bad", x.term(b[0], b[1], 5), -1);
            Check.due("at bad", x.at(b[0], b[1]), -1);
        }
        Check.due("other series", x.count(6), 33);
    }

    private static HiddenRelations three() {
        HiddenRelations x = new HiddenRelations();
        x.field(7);
        x.term(0, 0, 1);
        x.term(0, 1, 2);
        x.term(0, 31, 6);
        x.term(1, 0, 3);
        x.term(1, 2, 5);
        x.term(1, 31, 1);
        return x;
    }

    private static void mix() {
        HiddenRelations x = three();
        Check.due("mix", x.mix(0, 2, 1, -1, 2), 1);
        int[] want = new int[32];
        want[0] = 6;
        want[1] = 4;
        want[2] = 2;
        want[31] = 4;
        Check.terms("mix", x, 2, want);
        Check.due("mix onto itself", x.mix(2, 1, 2, 1, 2), 1);
        Check.due("doubled", x.at(2, 0), 5);
        Check.due("mix wide", x.mix(0, Integer.MAX_VALUE, 1, Integer.MIN_VALUE, 3), 1);
        Check.due("wide", x.at(3, 0), Math.floorMod(Integer.MAX_VALUE + 3L * Integer.MIN_VALUE, 7));
        Check.due("mix bad one", x.mix(-1, 1, 0, 1, 0), -1);
        Check.due("mix bad other", x.mix(0, 1, 6, 1, 0), -1);
        Check.due("mix bad to", x.mix(0, 1, 1, 1, 6), -1);
        Check.due("stays", x.at(0, 1), 2);
    }

    private static void times() {
        HiddenRelations x = three();
        Check.due("times", x.times(0, 1, 2), 1);
        int[] want = new int[32];
        want[0] = 3;
        want[1] = 6;
        want[2] = 5;
        want[3] = 3;
        want[31] = 18 % 7 + 1;
        Check.terms("times", x, 2, want);
        Check.due("times onto itself", x.times(0, 0, 0), 1);
        want = new int[32];
        want[0] = 1;
        want[1] = 4;
        want[2] = 4;
        want[31] = 5;
        Check.terms("square", x, 0, want);
        x.field(997);
        for (int k = 0; k < 32; k++) {
            x.term(0, k, -1);
        }
        x.times(0, 0, 0);
        for (int k = 0; k < 32; k++) {
            Check.due("greatest products", x.at(0, k), k + 1);
        }
        Check.due("times bad one", x.times(6, 0, 0), -1);
        Check.due("times bad other", x.times(0, -1, 0), -1);
        Check.due("times bad to", x.times(0, 0, 6), -1);
    }

    private static void inverse() {
        int[] primes = {2, 3, 5, 97, 997};
        for (int p : primes) {
            HiddenRelations x = new HiddenRelations();
            x.field(p);
            for (int k = 0; k < 32; k++) {
                x.term(0, k, 1 + k * k);
            }
            Check.due("inverse", x.inverse(0, 1), 1);
            x.times(0, 1, 2);
            Check.terms("one times its inverse", x, 2, 1);
            Check.due("inverse onto itself", x.inverse(1, 1), 1);
            x.mix(0, 1, 1, -1, 3);
            Check.due("inverse of the inverse", x.zeros(3), 32);
        }
        HiddenRelations x = new HiddenRelations();
        x.term(0, 1, 1);
        x.term(1, 3, 9);
        Check.due("inverse of 0 at x^0", x.inverse(0, 1), -2);
        Check.due("changes nothing", x.at(1, 3), 9);
        Check.due("inverse bad one", x.inverse(-1, 0), -1);
        Check.due("inverse bad to ahead of not", x.inverse(0, 6), -1);
    }

    private static void weigh() {
        HiddenRelations x = new HiddenRelations();
        x.field(5);
        for (int k = 0; k < 32; k++) {
            x.term(0, k, 3);
        }
        Check.due("weigh", x.weigh(0, 1), 1);
        for (int k = 0; k < 32; k++) {
            Check.due("weighed", x.at(1, k), 3 * k % 5);
        }
        Check.due("weigh onto itself", x.weigh(1, 1), 1);
        Check.due("weighed twice", x.at(1, 31), 3 * 31 * 31 % 5);
        Check.due("weigh bad one", x.weigh(6, 0), -1);
        Check.due("weigh bad to", x.weigh(0, -1), -1);
    }

    private static void shift() {
        HiddenRelations x = new HiddenRelations();
        for (int k = 0; k < 32; k++) {
            x.term(0, k, k + 1);
            x.term(1, k, 50);
        }
        Check.due("shift", x.shift(0, 5, 1), 1);
        for (int k = 0; k < 32; k++) {
            Check.due("shifted", x.at(1, k), k < 5 ? 0 : k - 4);
        }
        Check.due("shift by 0", x.shift(0, 0, 1), 1);
        Check.due("as it was", x.at(1, 31), 32);
        Check.due("shift onto itself", x.shift(0, 31, 0), 1);
        Check.due("all but one gone", x.zeros(0), 31);
        Check.due("the last", x.at(0, 31), 1);
        Check.due("shift bad one", x.shift(6, 0, 0), -1);
        Check.due("shift bad k", x.shift(0, -1, 0), -1);
        Check.due("shift bad k above", x.shift(0, 32, 0), -1);
        Check.due("shift bad to", x.shift(0, 0, 6), -1);
    }

    private static void zeros() {
        HiddenRelations x = new HiddenRelations();
        Check.due("zeros of 0", x.zeros(0), 32);
        for (int k = 31; k >= 0; k--) {
            x.term(0, k, 1);
            Check.due("zeros", x.zeros(0), k);
        }
        Check.due("zeros bad", x.zeros(-1), -1);
        Check.due("zeros bad above", x.zeros(6), -1);
    }
}
