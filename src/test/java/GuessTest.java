/** Promises 22 to 28: guesses, certificates, the ledger. */
public final class GuessTest {
    public static void main(String[] args) {
        rational();
        algebraic();
        differential();
        allowed();
        refused();
        looked();
        toldOn();
        kept();
        Check.ending("GuessTest");
    }

    private static void certificate(HiddenRelations x, int number, int... want) {
        for (int what = 0; what < 6; what++) {
            Check.due("certificate(" + number + ", " + what + ")", x.certificate(number, what), want[what]);
        }
    }

    private static void proof(HiddenRelations x, int number, int[]... want) {
        for (int j = 0; j < want.length; j++) {
            for (int k = 0; k < 10; k++) {
                int w = k < want[j].length ? want[j][k] : 0;
                Check.due("proof(" + number + ", " + j + ", " + k + ")", x.proof(number, j, k), w);
            }
        }
        Check.due("no further polynomial", x.proof(number, want.length, 0), -1);
        Check.due("none below", x.proof(number, -1, 0), -1);
        Check.due("k below", x.proof(number, 0, -1), -1);
        Check.due("k above", x.proof(number, 0, 10), -1);
    }

    private static void rational() {
        HiddenRelations x = new HiddenRelations();
        Check.text(x, "(2+x)/(1-3*x)", 3);
        Check.due("guess", x.guess(3, 0, Integer.MIN_VALUE, 6, 1), 0);
        // p_0 + p_1 A = 0 with both degrees 1: pivot 1, so 1 in front of x in p_1: (2+x)/3 + (x-1/3) A
        certificate(x, 0, 0, 2, 6, 1, 32, 97);
        proof(x, 0, new int[] {third(2), third(1)}, new int[] {third(-1), 1});
        x.field(997);
        Check.text(x, "996+995*x", 0);
        Check.due("guess", x.guess(0, 0, 7, 3, 9), 1);
        certificate(x, 1, 0, 2, 3, 1, 32, 997);
        Check.due("wide numbers", x.guess(0, 0, 7, 32, 9), 2);
        proof(x, 2, new int[] {499, 1}, new int[] {499});
        Check.due("HOLDS", x.certificate(2, 4), 32);
    }

    /** A third of v in the field of 97 numbers. */
    private static int third(int v) {
        return Math.floorMod(v * 65, 97);
    }

    private static void algebraic() {
        HiddenRelations x = new HiddenRelations();
        // Catalan numbers: 1 - A + x A^2 = 0
        int[] catalan = {1, 1, 2, 5, 14, 42, 132, 429, 1430, 4862, 16796, 58786, 208012};
        for (int k = 0; k < catalan.length; k++) {
            x.term(0, k, catalan[k]);
        }
        Check.due("guess", x.guess(0, 1, 2, 12, 3), 0);
        certificate(x, 0, 1, 3, 12, 1, 13, 97);
        proof(x, 0, new int[] {1}, new int[] {96}, new int[] {0, 1});
        Check.text(x, "1+x", 1);
        Check.due("of 1", x.guess(1, 1, 1, 9, 3), 1);
        certificate(x, 1, 1, 2, 9, 1, 32, 97);
        proof(x, 1, new int[] {1, 1}, new int[] {96});
        Check.due("of 3", x.guess(1, 1, 3, 32, 3), 2);
        certificate(x, 2, 1, 4, 32, 1, 32, 97);
    }

    private static void differential() {
        HiddenRelations x = new HiddenRelations();
        x.field(101);
        // (1-x)^(-2): x A' (1-x) = 2 x A
        Check.text(x, "1/(1-x)^2", 2);
        Check.due("guess", x.guess(2, 2, 1, 16, 4), 0);
        certificate(x, 0, 2, 2, 16, 1, 32, 101);
        proof(x, 0, new int[] {0, 2}, new int[] {100, 1});
        Check.due("of 3", x.guess(2, 2, 3, 4, 9), 1);
        Check.due("four polynomials", x.certificate(1, 1), 4);
        Check.text(x, "x^5", 0);
        Check.due("x^5", x.guess(0, 2, 1, 32, 0), 2);
        proof(x, 2, new int[] {96}, new int[] {1});
        certificate(x, 2, 2, 2, 32, 0, 32, 101);
    }

    private static void allowed() {
        HiddenRelations x = new HiddenRelations();
        Check.text(x, "(1+x^3)/(1-x^2-x^3)", 0);
        Check.due("height 3 above 2", x.guess(0, 0, 0, 20, 2), -3);
        Check.due("none is kept", x.count(2), 0);
        Check.due("no number is given", x.count(4), 0);
        Check.due("height 3", x.guess(0, 0, 0, 20, 3), 0);
        Check.due("its height", x.certificate(0, 3), 3);
        for (int k = 0; k < 32; k++) {
            x.term(1, k, k * k * k * k + (k % 3 == 0 ? 41 : k / 4));
        }
        Check.due("nothing found", x.guess(1, 0, 0, 32, 9), -3);
        Check.due("few terms", x.guess(1, 0, 0, 1, 0), 1);
        certificate(x, 1, 0, 2, 1, 0, 1, 97);
        // -41 + A, the pivot is the greatest of like
        proof(x, 1, new int[] {56}, new int[] {1});
        x.choose(12);
        x.order(3);
        x.lift(2, 9);
        Check.due("a height", x.told(3), 0);
        Check.due("another", x.told(4), 9);
        Check.due("shifts do not matter", x.guess(1, 0, 0, 1, 0), 2);
        Check.due("the choice stays", x.count(5), 12);
        Check.due("its basis stays", x.row(1, 0), 0);
        Check.due("its m stays", x.told(0), 2);
        Check.due("its order stays", x.told(1), 3);
        Check.due("used 32", x.guess(0, 0, 0, 32, 9), 3);
        Check.due("holds", x.certificate(3, 4), 32);
    }

    private static void refused() {
        HiddenRelations x = new HiddenRelations();
        Check.due("series", x.guess(6, 0, 1, 4, 4), -1);
        Check.due("series", x.guess(-1, 0, 1, 4, 4), -1);
        Check.due("kind", x.guess(0, -1, 1, 4, 4), -1);
        Check.due("kind", x.guess(0, 3, 1, 4, 4), -1);
        Check.due("r", x.guess(0, 1, 0, 4, 4), -1);
        Check.due("r", x.guess(0, 2, 4, 4, 4), -1);
        Check.due("r", x.guess(0, 2, -1, 4, 4), -1);
        Check.due("used", x.guess(0, 0, 1, 0, 4), -1);
        Check.due("used", x.guess(0, 0, 1, 33, 4), -1);
        Check.due("high", x.guess(0, 0, 1, 4, -1), -1);
        Check.due("high", x.guess(0, 0, 1, 4, 10), -1);
        Check.due("none is kept", x.count(2), 0);
        for (int i = 0; i < 8; i++) {
            Check.due("guess", x.guess(0, i % 3, 1, 4, 4), i);
        }
        Check.due("bad ahead of full", x.guess(0, 0, 1, 4, 10), -1);
        Check.due("full", x.guess(0, 0, 1, 4, 4), -4);
        Check.text(x, "1/(1-x^11)", 1);
        Check.due("full ahead of none", x.guess(1, 0, 0, 32, 0), -4);
        Check.due("what ahead of the number", x.certificate(9, 6), -1);
        Check.due("what", x.certificate(0, -1), -1);
        Check.due("number", x.certificate(8, 5), -3);
        Check.due("number", x.certificate(-1, 0), -3);
        Check.due("number ahead of j", x.proof(8, 9, 9), -3);
        Check.due("series ahead of the number", x.test(8, 6), -1);
        Check.due("number", x.test(8, 5), -3);
        Check.due("series ahead of the number", x.toldOn(8, -1), -1);
        Check.due("number", x.toldOn(-1, 0), -3);
        Check.due("number", x.strike(8), -3);
        Check.due("number", x.strike(Integer.MIN_VALUE), -3);
    }

    private static void looked() {
        HiddenRelations x = new HiddenRelations();
        Check.text(x, "1/(1-x-x^2)", 0);
        x.guess(0, 0, 0, 8, 9);
        Check.due("itself", x.test(0, 0), 32);
        x.term(0, 20, x.at(0, 20) + 1);
        Check.due("as it is now", x.test(0, 0), 20);
        Check.due("another", x.test(0, 1), 0);
        Check.text(x, "1/(1-x)", 2);
        x.guess(2, 2, 1, 12, 9);
        Check.due("the other kind", x.test(1, 2), 32);
        Check.text(x, "2/(1-x)", 2);
        Check.due("any multiple", x.test(1, 2), 32);
        Check.text(x, "1+x", 3);
        x.guess(3, 1, 2, 20, 9);
        Check.due("algebraic", x.test(2, 3), 32);
        Check.due("algebraic of another", x.test(2, 2), 0);
        Check.due("series", x.test(0, -1), -1);
        x.field(89);
        Check.due("another field", x.test(0, 0), -2);
        Check.due("series ahead of not", x.test(0, 6), -1);
        x.field(97);
        Check.due("the field again", x.test(0, 0), 0);
    }

    private static void toldOn() {
        HiddenRelations x = new HiddenRelations();
        int[] fibonacci = {0, 1, 1, 2, 3, 5, 8, 13};
        for (int k = 0; k < 8; k++) {
            x.term(4, k, fibonacci[k]);
        }
        Check.due("guess", x.guess(4, 0, 0, 8, 3), 0);
        Check.due("holds", x.certificate(0, 4), 8);
        Check.due("told on", x.toldOn(0, 5), 1);
        int a = 0;
        int b = 1;
        for (int k = 0; k < 32; k++) {
            Check.due("told on at " + k, x.at(5, k), a);
            b = a + b;
            a = b - a;
            a %= 97;
            b %= 97;
        }
        Check.due("told on to itself", x.toldOn(0, 4), 1);
        Check.due("all hold now", x.test(0, 4), 32);
        x.guess(4, 1, 1, 8, 9);
        Check.due("algebraic", x.toldOn(1, 4), -2);
        x.guess(4, 2, 1, 8, 9);
        Check.due("differential", x.toldOn(2, 4), -2);
        // 0 but for x^3: x A = 0 up to x^3
        x.field(97);
        x.term(0, 3, 1);
        Check.due("guess", x.guess(0, 0, 0, 4, 9), 3);
        Check.due("x A", x.proof(3, 1, 1) * 10 + x.proof(3, 1, 0), 10);
        Check.due("0 at x^0", x.toldOn(3, 4), -2);
        Check.due("series", x.toldOn(3, 6), -1);
        x.field(2);
        Check.due("another field", x.toldOn(0, 4), -2);
        Check.due("series ahead of not", x.toldOn(0, -1), -1);
    }

    private static void kept() {
        HiddenRelations x = new HiddenRelations();
        for (int i = 0; i < 8; i++) {
            x.field(97);
            x.term(0, 0, i + 1);
            Check.due("guess", x.guess(0, 0, 0, 1 + i, 9), i);
        }
        Check.due("full", x.guess(0, 0, 0, 1, 9), -4);
        Check.due("strike", x.strike(2), 7);
        Check.due("struck already", x.strike(2), -3);
        Check.due("its certificate", x.certificate(2, 0), -3);
        Check.due("its proof", x.proof(2, 0, 0), -3);
        Check.due("strike", x.strike(5), 6);
        Check.due("numbered on", x.guess(0, 1, 2, 20, 9), 8);
        Check.due("numbered on", x.guess(0, 1, 3, 21, 9), 9);
        Check.due("full", x.guess(0, 0, 0, 1, 9), -4);
        int[] numbers = {0, 1, 3, 4, 6, 7, 8, 9};
        for (int i = 0; i < 8; i++) {
            Check.due("listed(" + i + ")", x.listed(i), numbers[i]);
            int used = numbers[i] < 8 ? 1 + numbers[i] : 12 + numbers[i];
            Check.due("USED", x.certificate(numbers[i], 2), used);
            if (numbers[i] < 8) {
                Check.due("its row", x.proof(numbers[i], 0, 0), 96 - numbers[i]);
            }
        }
        Check.due("listed(8)", x.listed(8), -3);
        Check.due("listed(-1)", x.listed(-1), -3);
        Check.due("listed least", x.listed(Integer.MIN_VALUE), -3);
        for (int i = 0; i < 8; i++) {
            Check.due("strike", x.strike(numbers[i]), 7 - i);
        }
        Check.due("listed(0)", x.listed(0), -3);
        Check.due("given", x.count(4), 10);
        Check.due("numbered on behind all", x.guess(0, 0, 0, 1, 9), 10);
    }
}
