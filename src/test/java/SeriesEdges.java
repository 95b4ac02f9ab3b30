/** Boundary cases of the field and of series: promises 2 to 9 and 12. */
final class SeriesEdges {
    private static final int LEAST = Integer.MIN_VALUE;
    private static final int GREATEST = Integer.MAX_VALUE;
    /** What is no series, and so what is BAD. */
    private static final int[] NO_SERIES = {-1, 6, LEAST, GREATEST};
    private static final int[] NO_POWER = {-1, 32, LEAST, GREATEST};

    private SeriesEdges() {
    }

    private static void fill(HiddenRelations x, int series, int v) {
        for (int k = 0; k < 32; k++) {
            x.term(series, k, v);
        }
    }

    // the field

    @Says(at = "Terms 1", words = "THE FIELD has p numbers 0 .. p - 1 (p a prime, 2 .. 997; 97 at first)")
    private static void leastField(HiddenRelations x) {
        Check.due("field(2)", x.field(2), 97);
        Check.due("p", x.count(0), 2);
        int[] numbers = {-2, -1, 0, 1, 2, 3};
        for (int v : numbers) {
            x.term(0, 0, v);
            Check.due("of " + v, x.at(0, 0), v & 1);
        }
    }

    @Says(at = "Terms 1", words = "THE FIELD has p numbers 0 .. p - 1 (p a prime, 2 .. 997; 97 at first)")
    private static void greatestField(HiddenRelations x) {
        Check.due("field(997)", x.field(997), 97);
        Check.due("p", x.count(0), 997);
        x.term(0, 0, 996);
        Check.due("the greatest number", x.at(0, 0), 996);
        x.term(0, 0, 997);
        Check.due("one more is 0", x.at(0, 0), 0);
        x.term(0, 0, -1);
        Check.due("one less is the greatest", x.at(0, 0), 996);
    }

    private static void refusedFields(HiddenRelations x, int... none) {
        x.term(5, 31, 1);
        for (int p : none) {
            Check.due("field(" + p + ")", x.field(p), -1);
            Check.due("p", x.count(0), 97);
            Check.due("series stay", x.at(5, 31), 1);
        }
    }

    @Says(at = "Terms 1", words = "(p a prime, 2 .. 997; 97 at first)")
    private static void fieldTooSmall(HiddenRelations x) {
        refusedFields(x, 1, 0, -1, -2, -3, -97, LEAST);
    }

    @Says(at = "Terms 1", words = "(p a prime, 2 .. 997; 97 at first)")
    private static void fieldTooLarge(HiddenRelations x) {
        refusedFields(x, 998, 1009, 1013, 65537, GREATEST);
    }

    @Says(at = "Terms 1", words = "(p a prime, 2 .. 997; 97 at first)")
    private static void fieldOfNoPrime(HiddenRelations x) {
        refusedFields(x, 4, 6, 9, 15, 25, 49, 91, 121, 169, 289, 361, 529, 561, 841, 899, 961, 989, 995, 996);
    }

    @Says(at = "Terms 1", words = "(p a prime, 2 .. 997; 97 at first)")
    private static void fieldOfEachPrime(HiddenRelations x) {
        boolean[] made = new boolean[998];
        int before = 97;
        int primes = 0;
        for (int p = 2; p <= 997; p++) {
            if (made[p]) {
                continue;
            }
            for (int n = p * p; n <= 997; n += p) {
                made[n] = true;
            }
            Check.due("field(" + p + ")", x.field(p), before);
            before = p;
            primes++;
        }
        Check.due("primes", primes, 168);
    }

    @Says(at = "Promise 2", words = "THE FIELD has p numbers: how many it had. BAD.")
    private static void fieldAnswersWhatItHad(HiddenRelations x) {
        Check.due("of a new object", x.field(89), 97);
        Check.due("the same anew", x.field(89), 89);
        Check.due("refused", x.field(90), -1);
        Check.due("behind a refused one", x.field(2), 89);
    }

    @Says(at = "Terms 4", words = "When THE FIELD becomes another (or the same anew), all SERIES are 0.")
    private static void anotherField(HiddenRelations x) {
        for (int s = 0; s < 6; s++) {
            fill(x, s, 1);
        }
        x.field(2);
        for (int s = 0; s < 6; s++) {
            Check.due("zeros(" + s + ")", x.zeros(s), 32);
        }
    }

    @Says(at = "Terms 4", words = "When THE FIELD becomes another (or the same anew), all SERIES are 0.")
    private static void sameFieldAnew(HiddenRelations x) {
        for (int s = 0; s < 6; s++) {
            fill(x, s, 1);
        }
        x.field(97);
        for (int s = 0; s < 6; s++) {
            Check.due("zeros(" + s + ")", x.zeros(s), 32);
        }
    }

    // numbers

    @Says(at = "Terms 1", words = "all sums, differences, products of numbers are taken by p (what remains, 0 .. p - 1)")
    private static void sumsOfTheGreatest(HiddenRelations x) {
        x.field(997);
        x.term(0, 0, 996);
        x.term(1, 0, 996);
        x.mix(0, 1, 1, 1, 2);
        Check.due("996 + 996", x.at(2, 0), 995);
        x.term(1, 0, 1);
        x.mix(0, 1, 1, 1, 2);
        Check.due("996 + 1", x.at(2, 0), 0);
    }

    @Says(at = "Terms 1", words = "all sums, differences, products of numbers are taken by p (what remains, 0 .. p - 1)")
    private static void differencesBelowZero(HiddenRelations x) {
        x.field(997);
        x.term(1, 0, 1);
        x.mix(0, 1, 1, -1, 2);
        Check.due("0 - 1", x.at(2, 0), 996);
        x.term(0, 0, 1);
        x.mix(0, 1, 1, -1, 2);
        Check.due("1 - 1", x.at(2, 0), 0);
        Check.due("text 0-996", Check.text(x, "0-996", 3), 1);
        Check.due("0 - 996", x.at(3, 0), 1);
    }

    @Says(at = "Terms 1", words = "all sums, differences, products of numbers are taken by p (what remains, 0 .. p - 1)")
    private static void productsOfTheGreatest(HiddenRelations x) {
        x.field(997);
        fill(x, 0, 996);
        x.times(0, 0, 1);
        for (int k = 0; k < 32; k++) {
            Check.due("at x^" + k, x.at(1, k), k + 1);
        }
        x.mix(0, 996, 0, 996, 2);
        Check.due("996 times 996, twice", x.at(2, 31), 2);
    }

    @Says(at = "Terms 1", words = "quotients by what times the divisor makes the number")
    private static void quotientsByEachNumber(HiddenRelations x) {
        for (int v = 1; v < 97; v++) {
            x.term(0, 0, v);
            x.inverse(0, 1);
            Check.due("1 by " + v + ", times it", x.at(1, 0) * v % 97, 1);
        }
    }

    @Says(at = "Terms 1", words = "quotients by what times the divisor makes the number")
    private static void quotientsInTheLeastField(HiddenRelations x) {
        x.field(2);
        Check.due("1/(1+x)", Check.text(x, "1/(1+x)", 0), 1);
        for (int k = 0; k < 32; k++) {
            Check.due("at x^" + k, x.at(0, k), 1);
        }
        Check.due("3/5", Check.text(x, "3/5", 0), 1);
        Check.terms("3/5", x, 0, 1);
    }

    @Says(at = "Terms 1", words = "quotients by what times the divisor makes the number")
    private static void quotientsInTheGreatestField(HiddenRelations x) {
        x.field(997);
        Check.due("1/2", Check.text(x, "1/2", 0), 1);
        Check.terms("1/2", x, 0, 499);
        Check.due("1/996", Check.text(x, "1/996", 0), 1);
        Check.terms("1/996", x, 0, 996);
        Check.due("0/996", Check.text(x, "0/996", 0), 1);
        Check.terms("0/996", x, 0);
    }

    // terms

    @Says(at = "Terms 1", words = "A SERIES has 32 TERMS, numbers at x^0 .. x^31")
    private static void firstAndLastTerm(HiddenRelations x) {
        for (int s = 0; s < 6; s++) {
            Check.due("the first", x.term(s, 0, 5), 0);
            Check.due("the last", x.term(s, 31, 6), 0);
            Check.due("the first is", x.at(s, 0), 5);
            Check.due("the last is", x.at(s, 31), 6);
            Check.due("beside it", x.at(s, 30) + x.at(s, 1), 0);
        }
    }

    @Says(at = "Terms 1", words = "all of higher powers is left out.")
    private static void higherPowersOfProducts(HiddenRelations x) {
        x.term(0, 16, 1);
        x.term(1, 15, 1);
        x.term(2, 31, 1);
        x.term(3, 1, 1);
        x.times(0, 1, 4);
        Check.due("x^31 stays", x.zeros(4), 31);
        x.times(0, 0, 4);
        Check.terms("x^32", x, 4);
        x.times(2, 3, 4);
        Check.terms("x^31 times x", x, 4);
        x.times(2, 2, 4);
        Check.terms("x^62", x, 4);
    }

    @Says(at = "Terms 1", words = "all of higher powers is left out.")
    private static void higherPowersOfShifts(HiddenRelations x) {
        fill(x, 0, 1);
        x.term(0, 1, 7);
        x.shift(0, 30, 1);
        Check.due("x^30", x.at(1, 30), 1);
        Check.due("x^31", x.at(1, 31), 7);
        Check.due("below", x.zeros(1), 30);
        x.shift(1, 2, 1);
        Check.terms("nothing is left", x, 1);
    }

    @Says(at = "Terms 1", words = "all of higher powers is left out.")
    private static void higherPowersOfTexts(HiddenRelations x) {
        Check.due("x^31+x^32+x^40", Check.text(x, "x^31+x^32+x^40", 0), 1);
        Check.due("x^31 alone", x.at(0, 31), 1);
        Check.due("nothing below", x.zeros(0), 31);
        Check.due("x^32", Check.text(x, "x^32", 0), 1);
        Check.terms("x^32", x, 0);
    }

    @Says(at = "Promise 3", words = "TERM k of a SERIES becomes v (taken by p, 0 .. p - 1): what it was.")
    private static void termOfAnyInt(HiddenRelations x) {
        int[] values = {0, 1, 96, 97, 98, -1, -96, -97, -98, LEAST, GREATEST};
        int was = 0;
        for (int v : values) {
            Check.due("term of " + v, x.term(3, 31, v), was);
            was = (int) ((v % 97L + 97) % 97);
            Check.due("at", x.at(3, 31), was);
        }
    }

    @Says(at = "Promise 3", words = "BAD: series, k.")
    private static void termOfNoSeries(HiddenRelations x) {
        for (int s : NO_SERIES) {
            Check.due("term(" + s + ", 0, 1)", x.term(s, 0, 1), -1);
        }
        Check.due("nothing came", x.count(6), 0);
    }

    @Says(at = "Promise 3", words = "BAD: series, k.")
    private static void termOfNoPower(HiddenRelations x) {
        for (int k : NO_POWER) {
            Check.due("term(0, " + k + ", 1)", x.term(0, k, 1), -1);
        }
        Check.due("nothing came", x.count(6), 0);
    }

    @Says(at = "Promise 4", words = "TERM k of a SERIES. BAD.")
    private static void atNoTerm(HiddenRelations x) {
        for (int i = 0; i < 4; i++) {
            Check.due("at(" + NO_SERIES[i] + ", 0)", x.at(NO_SERIES[i], 0), -1);
            Check.due("at(0, " + NO_POWER[i] + ")", x.at(0, NO_POWER[i]), -1);
        }
        Check.due("at(5, 31)", x.at(5, 31), 0);
    }

    // sums, products, inverses

    @Says(at = "Promise 5", words = "a times one and b times another one together (a, b any ints, taken by p)")
    private static void mixByAnyInts(HiddenRelations x) {
        int[] any = {0, 1, -1, 97, -97, LEAST, GREATEST};
        x.term(0, 0, 1);
        x.term(1, 0, 96);
        for (int a : any) {
            for (int b : any) {
                Check.due("mix", x.mix(0, a, 1, b, 2), 1);
                Check.due("a is " + a + ", b is " + b, x.at(2, 0), Math.floorMod(a - (long) b, 97L));
            }
        }
    }

    @Says(at = "Promise 5", words = "A SERIES becomes a times one and b times another one together")
    private static void mixOntoItself(HiddenRelations x) {
        fill(x, 0, 2);
        fill(x, 1, 3);
        x.mix(0, 4, 1, 5, 0);
        Check.due("onto one", x.at(0, 31), 23);
        x.mix(0, 1, 1, 2, 1);
        Check.due("onto another", x.at(1, 31), 29);
        x.mix(1, 1, 1, 1, 1);
        Check.due("all the same", x.at(1, 31), 58);
    }

    @Says(at = "Promise 5", words = "BAD: series.")
    private static void mixOfNoSeries(HiddenRelations x) {
        x.term(0, 0, 1);
        for (int s : NO_SERIES) {
            Check.due("one", x.mix(s, 1, 0, 1, 0), -1);
            Check.due("other", x.mix(0, 1, s, 1, 0), -1);
            Check.due("to", x.mix(0, 1, 0, 1, s), -1);
        }
        Check.terms("it stays", x, 0, 1);
    }

    @Says(at = "Promise 6", words = "A SERIES becomes the product of two: 1.")
    private static void timesOntoItself(HiddenRelations x) {
        x.term(0, 0, 1);
        x.term(0, 1, 1);
        x.term(1, 0, 2);
        x.term(1, 1, 3);
        Check.due("onto one", x.times(0, 1, 0), 1);
        Check.terms("onto one", x, 0, 2, 5, 3);
        Check.due("onto another", x.times(1, 0, 0), 1);
        Check.terms("onto another", x, 0, 4, 16, 21, 9);
        Check.due("all the same", x.times(1, 1, 1), 1);
        Check.terms("all the same", x, 1, 4, 12, 9);
    }

    @Says(at = "Promise 6", words = "A SERIES becomes the product of two: 1. BAD.")
    private static void timesOfNoSeries(HiddenRelations x) {
        x.term(0, 0, 2);
        for (int s : NO_SERIES) {
            Check.due("one", x.times(s, 0, 0), -1);
            Check.due("other", x.times(0, s, 0), -1);
            Check.due("to", x.times(0, 0, s), -1);
        }
        Check.terms("it stays", x, 0, 2);
    }

    @Says(at = "Terms 1", words = "INVERSE of one whose TERM 0 isn't 0: the SERIES that makes 1 with it.")
    private static void inverseOfTheGreatest(HiddenRelations x) {
        x.field(997);
        fill(x, 0, 996);
        Check.due("inverse", x.inverse(0, 1), 1);
        Check.terms("-1 by 1 + x + .. is x - 1", x, 1, 996, 1);
        Check.due("onto itself", x.inverse(1, 1), 1);
        for (int k = 0; k < 32; k++) {
            Check.due("at x^" + k, x.at(1, k), 996);
        }
    }

    @Says(at = "Promise 7", words = "A SERIES becomes the INVERSE of one: 1.")
    private static void inverseIsOneUpToItsLastTerm(HiddenRelations x) {
        int[] primes = {2, 3, 997};
        for (int p : primes) {
            x.field(p);
            for (int k = 0; k < 32; k++) {
                x.term(0, k, 1 + 3 * k * k);
            }
            x.inverse(0, 1);
            x.times(0, 1, 2);
            Check.terms("p " + p, x, 2, 1);
        }
    }

    @Says(at = "Promise 7", words = "NOT: its TERM 0 is 0.")
    private static void inverseOfNone(HiddenRelations x) {
        fill(x, 0, 5);
        fill(x, 1, 6);
        x.term(0, 0, 97);
        Check.due("0 at x^0", x.inverse(0, 1), -2);
        Check.due("onto itself", x.inverse(0, 0), -2);
        Check.due("of 0", x.inverse(2, 1), -2);
        Check.due("it stays", x.at(1, 0) * 100 + x.at(1, 31), 606);
        Check.due("the other too", x.at(0, 0) * 100 + x.at(0, 31), 5);
        x.term(0, 0, 1);
        Check.due("1 at x^0", x.inverse(0, 1), 1);
    }

    @Says(at = "Promise 7", words = "A SERIES becomes the INVERSE of one: 1. BAD; NOT: its TERM 0 is 0.")
    private static void inverseOfNoSeries(HiddenRelations x) {
        x.term(0, 0, 2);
        for (int s : NO_SERIES) {
            Check.due("one", x.inverse(s, 0), -1);
            Check.due("to", x.inverse(0, s), -1);
            Check.due("BAD ahead of NOT", x.inverse(1, s), -1);
        }
        Check.terms("it stays", x, 0, 2);
    }

    // weighed, shifted, zeros

    @Says(at = "Terms 1", words = "WEIGHED: k times TERM k at each x^k.")
    private static void weighedFromNoneToTheLast(HiddenRelations x) {
        fill(x, 0, 1);
        Check.due("weigh", x.weigh(0, 1), 1);
        Check.due("none of the first", x.at(1, 0), 0);
        Check.due("the second as it is", x.at(1, 1), 1);
        Check.due("31 times the last", x.at(1, 31), 31);
    }

    @Says(at = "Terms 1", words = "WEIGHED: k times TERM k at each x^k.")
    private static void weighedByWhatIsZero(HiddenRelations x) {
        x.field(5);
        fill(x, 0, 4);
        x.weigh(0, 0);
        for (int k = 0; k < 32; k++) {
            Check.due("at x^" + k, x.at(0, k), 4 * k % 5);
        }
    }

    @Says(at = "Promise 8", words = "A SERIES becomes one WEIGHED: 1. BAD.")
    private static void weighOfNoSeries(HiddenRelations x) {
        fill(x, 0, 1);
        for (int s : NO_SERIES) {
            Check.due("one", x.weigh(s, 0), -1);
            Check.due("to", x.weigh(0, s), -1);
        }
        Check.due("it stays", x.at(0, 0) + x.at(0, 31), 2);
    }

    @Says(at = "Promise 9", words = "A SERIES becomes x^k (k 0 .. 31) times one: 1.")
    private static void shiftByTheLeast(HiddenRelations x) {
        x.term(0, 0, 7);
        x.term(0, 31, 8);
        x.term(1, 5, 1);
        Check.due("shift(0, 0, 1)", x.shift(0, 0, 1), 1);
        Check.due("as one is", x.at(1, 0) * 100 + x.at(1, 31), 708);
        Check.due("nothing of what was there", x.at(1, 5), 0);
        Check.due("onto itself", x.shift(0, 0, 0), 1);
        Check.due("as it was", x.at(0, 0) * 100 + x.at(0, 31), 708);
    }

    @Says(at = "Promise 9", words = "A SERIES becomes x^k (k 0 .. 31) times one: 1.")
    private static void shiftByTheGreatest(HiddenRelations x) {
        fill(x, 0, 9);
        x.term(0, 0, 7);
        fill(x, 1, 5);
        Check.due("shift(0, 31, 1)", x.shift(0, 31, 1), 1);
        Check.due("the first is the last", x.at(1, 31), 7);
        Check.due("0 below", x.zeros(1), 31);
        Check.due("onto itself", x.shift(0, 31, 0), 1);
        Check.due("the first is the last", x.at(0, 31), 7);
        Check.due("0 below", x.zeros(0), 31);
    }

    @Says(at = "Promise 9", words = "A SERIES becomes x^k (k 0 .. 31) times one: 1. BAD.")
    private static void shiftByNone(HiddenRelations x) {
        x.term(0, 0, 2);
        for (int i = 0; i < 4; i++) {
            Check.due("one", x.shift(NO_SERIES[i], 1, 0), -1);
            Check.due("k", x.shift(0, NO_POWER[i], 0), -1);
            Check.due("to", x.shift(0, 1, NO_SERIES[i]), -1);
        }
        Check.terms("it stays", x, 0, 2);
    }

    @Says(at = "Promise 12", words = "How many TERMS of a SERIES are 0 ahead of the first that is not (32: all).")
    private static void zerosFromNoneToAll(HiddenRelations x) {
        Check.due("all", x.zeros(0), 32);
        x.term(0, 31, 1);
        Check.due("all but the last", x.zeros(0), 31);
        x.term(0, 1, 1);
        Check.due("one", x.zeros(0), 1);
        x.term(0, 0, 1);
        Check.due("none", x.zeros(0), 0);
        x.term(0, 0, 97);
        Check.due("0 by p", x.zeros(0), 1);
    }

    @Says(at = "Promise 12", words = "(32: all). BAD.")
    private static void zerosOfNoSeries(HiddenRelations x) {
        for (int s : NO_SERIES) {
            Check.due("zeros(" + s + ")", x.zeros(s), -1);
        }
    }
}
