/** Boundary cases of guesses, certificates and the ledger: promises 22 to 28. */
final class GuessEdges {
    private static final int LEAST = Integer.MIN_VALUE;
    private static final int GREATEST = Integer.MAX_VALUE;
    private static final int[] NO_SERIES = {-1, 6, LEAST, GREATEST};

    private GuessEdges() {
    }

    private static void certificate(HiddenRelations x, int number, int... want) {
        for (int what = 0; what < 6; what++) {
            Check.due("certificate(" + number + ", " + what + ")", x.certificate(number, what), want[what]);
        }
    }

    private static void proof(HiddenRelations x, int number, int j, int... want) {
        for (int k = 0; k < 10; k++) {
            Check.due("proof(" + number + ", " + j + ", " + k + ")", x.proof(number, j, k), k < want.length ? want[k] : 0);
        }
    }

    private static void guesses(HiddenRelations x, int from, int to) {
        for (int number = from; number < to; number++) {
            Check.due("guess", x.guess(0, 0, 0, 1, 9), number);
        }
    }

    // what a guess is of

    @Says(at = "Terms 3", words = "A GUESS for a SERIES A is of a KIND: 0 RATIONAL: f_0 is 1, f_1 is A")
    private static void guessOfNoKind(HiddenRelations x) {
        int[] none = {-1, 3, LEAST, GREATEST};
        for (int kind : none) {
            Check.due("kind " + kind, x.guess(0, kind, 1, 4, 9), -1);
        }
        Check.due("none is kept", x.count(2) + x.count(4), 0);
    }

    @Says(at = "Promise 22", words = "BAD: series, kind, r, used, high (0 .. 9);")
    private static void guessForNoSeries(HiddenRelations x) {
        for (int s : NO_SERIES) {
            Check.due("series " + s, x.guess(s, 0, 1, 4, 9), -1);
        }
        Check.due("the last series", x.guess(5, 0, 1, 4, 9), 0);
    }

    @Says(at = "Promise 22", words = "r does not matter for KIND 0.")
    private static void anyRForKindZero(HiddenRelations x) {
        int[] any = {0, 1, 3, 4, -1, LEAST, GREATEST};
        for (int i = 0; i < any.length; i++) {
            Check.due("r " + any[i], x.guess(0, 0, any[i], 4, 9), i);
            Check.due("two polynomials", x.certificate(i, 1), 2);
        }
    }

    @Says(at = "Terms 3", words = "1 ALGEBRAIC of r (1 .. 3): f_0 is 1, f_1 is A, .. f_r is A times itself, r times in all")
    private static void algebraicOfLeastAndGreatestR(HiddenRelations x) {
        x.field(5);
        Check.text(x, "1+x", 0);
        Check.due("r 1", x.guess(0, 1, 1, 32, 9), 0);
        certificate(x, 0, 1, 2, 32, 1, 32, 5);
        proof(x, 0, 0, 1, 1);
        proof(x, 0, 1, 4);
        x.field(997);
        x.term(0, 0, 2);
        Check.due("r 3", x.guess(0, 1, 3, 1, 0), 1);
        certificate(x, 1, 1, 4, 1, 0, 32, 997);
        proof(x, 1, 0, 995);
        proof(x, 1, 1, 1);
    }

    @Says(at = "Terms 3", words = "1 ALGEBRAIC of r (1 .. 3): f_0 is 1, f_1 is A, .. f_r is A times itself, r times in all")
    private static void algebraicOfTheThirdPower(HiddenRelations x) {
        x.field(3);
        // by 3 numbers the third power of a sum is the sum of third powers: so x + A is A^3
        x.term(0, 1, -1);
        x.term(0, 3, -1);
        x.term(0, 9, -1);
        x.term(0, 27, -1);
        Check.due("x + A - A^3 is 0", x.guess(0, 1, 3, 32, 1), 0);
        certificate(x, 0, 1, 4, 32, 1, 32, 3);
        proof(x, 0, 0, 0, 1);
        proof(x, 0, 1, 1);
        proof(x, 0, 2);
        proof(x, 0, 3, 2);
    }

    @Says(at = "Terms 3", words = "2 DIFFERENTIAL of r (1 .. 3): f_0 is A, f_1 is A WEIGHED, .. f_r is A WEIGHED r times.")
    private static void differentialOfLeastAndGreatestR(HiddenRelations x) {
        Check.text(x, "x+x^2+x^3", 0);
        Check.due("r 1", x.guess(0, 2, 1, 1, 0), 0);
        certificate(x, 0, 2, 2, 1, 0, 1, 97);
        Check.due("r 3", x.guess(0, 2, 3, 32, 0), 1);
        // (t - 1)(t - 2)(t - 3) is -6 + 11 t - 6 t^2 + t^3
        certificate(x, 1, 2, 4, 32, 0, 32, 97);
        proof(x, 1, 0, 91);
        proof(x, 1, 1, 11);
        proof(x, 1, 2, 91);
        proof(x, 1, 3, 1);
    }

    @Says(at = "Promise 22", words = "BAD: series, kind, r, used, high (0 .. 9);")
    private static void guessOfNoR(HiddenRelations x) {
        int[] none = {0, -1, 4, LEAST, GREATEST};
        for (int r : none) {
            Check.due("algebraic of " + r, x.guess(0, 1, r, 4, 9), -1);
            Check.due("differential of " + r, x.guess(0, 2, r, 4, 9), -1);
        }
        Check.due("none is kept", x.count(2) + x.count(4), 0);
    }

    @Says(at = "Terms 3", words = "the ORDER how many TERMS are USED (1 .. 32)")
    private static void leastAndGreatestUsed(HiddenRelations x) {
        x.term(0, 0, 5);
        x.term(0, 1, 1);
        x.term(0, 31, 1);
        Check.due("one term", x.guess(0, 0, 0, 1, 9), 0);
        certificate(x, 0, 0, 2, 1, 0, 1, 97);
        proof(x, 0, 0, 92);
        proof(x, 0, 1, 1);
        Check.due("all but the last", x.guess(0, 0, 0, 31, 9), 1);
        certificate(x, 1, 0, 2, 31, 1, 31, 97);
        Check.due("all terms", x.guess(0, 0, 0, 32, 9), 2);
        certificate(x, 2, 0, 2, 32, 2, 32, 97);
        proof(x, 2, 0, 0, 5, 1);
        proof(x, 2, 1, 0, 96);
    }

    @Says(at = "Promise 22", words = "BAD: series, kind, r, used, high (0 .. 9);")
    private static void guessOfNoUsed(HiddenRelations x) {
        int[] none = {0, -1, 33, LEAST, GREATEST};
        for (int used : none) {
            Check.due("used " + used, x.guess(0, 0, 0, used, 9), -1);
        }
        Check.due("none is kept", x.count(2) + x.count(4), 0);
    }

    @Says(at = "Promise 22", words = "BAD: series, kind, r, used, high (0 .. 9);")
    private static void guessOfNoHeight(HiddenRelations x) {
        int[] none = {-1, 10, LEAST, GREATEST};
        for (int high : none) {
            Check.due("high " + high, x.guess(0, 0, 0, 4, high), -1);
        }
        Check.due("none is kept", x.count(2) + x.count(4), 0);
    }

    @Says(at = "Terms 3", words = "If its HEIGHT is above what is allowed (0 .. 9) there is none.")
    private static void heightAsAllowedAndOneAbove(HiddenRelations x) {
        for (int height = 0; height <= 9; height++) {
            x.field(97);
            x.term(0, height, 1);
            if (height > 0) {
                Check.due("height " + height + ", one below allowed", x.guess(0, 0, 0, 32, height - 1), -3);
            }
            Check.due("height " + height + " allowed", x.guess(0, 0, 0, 32, height), height);
            Check.due("its height", x.certificate(height, 3), height);
            x.strike(height);
        }
        x.field(97);
        x.term(0, 10, 1);
        Check.due("height 10", x.guess(0, 0, 0, 32, 9), -3);
    }

    @Says(at = "Promise 22", words = "NONE: there is none.")
    private static void noneIsNotKept(HiddenRelations x) {
        x.term(0, 1, 1);
        Check.due("none", x.guess(0, 0, 0, 32, 0), -3);
        Check.due("none is kept", x.count(2), 0);
        Check.due("no number is given", x.count(4), 0);
        Check.due("the first number is still 0", x.guess(0, 0, 0, 32, 1), 0);
    }

    @Says(at = "Terms 3", words = "of like ones the first by its number.")
    private static void firstOfLikeRows(HiddenRelations x) {
        x.term(0, 1, 1);
        // x f_0 - f_1 and x f_1 (that is x^2) both have height 1
        Check.due("guess", x.guess(0, 0, 0, 2, 1), 0);
        proof(x, 0, 0, 0, 1);
        proof(x, 0, 1, 96);
        Check.due("its height", x.certificate(0, 3), 1);
        Check.due("of nothing", x.guess(1, 2, 3, 32, 0), 1);
        proof(x, 1, 0, 1);
        for (int j = 1; j < 4; j++) {
            proof(x, 1, j);
        }
    }

    @Says(at = "Terms 3", words = "With all SHIFTS 0")
    private static void shiftsDoNotMatter(HiddenRelations x) {
        Check.text(x, "1/(1-x)", 0);
        for (int s = 0; s < 6; s++) {
            x.lift(s, 9 - s);
        }
        x.choose(3);
        Check.due("the least height of the choice", x.told(3), 8);
        Check.due("guess", x.guess(0, 0, 0, 9, 1), 0);
        certificate(x, 0, 0, 2, 9, 1, 32, 97);
        Check.due("a shift stays", x.lift(0, 0), 9);
        Check.due("the order stays", x.told(1), 8);
        Check.due("the choice stays", x.count(5), 3);
    }

    @Says(at = "Terms 3", words = "HOLDS: how many TERMS of p_0 f_0 + .. are 0 ahead of the first that is not (32: all).")
    private static void holdsFromUsedToAll(HiddenRelations x) {
        x.term(0, 0, 1);
        x.term(0, 1, 1);
        x.guess(0, 0, 0, 1, 0);
        Check.due("as many as were used", x.certificate(0, 4), 1);
        x.term(0, 1, 0);
        x.term(0, 31, 1);
        x.guess(0, 0, 0, 1, 0);
        Check.due("all but the last", x.certificate(1, 4), 31);
        x.term(0, 31, 0);
        x.guess(0, 0, 0, 1, 0);
        Check.due("all", x.certificate(2, 4), 32);
    }

    @Says(at = "Terms 3", words = "THE LEDGER keeps a CERTIFICATE for each GUESS (KIND, r, USED, HEIGHT, HOLDS, the row, p), 8 at most")
    private static void ledgerIsFull(HiddenRelations x) {
        guesses(x, 0, 8);
        Check.due("the ninth", x.guess(0, 0, 0, 1, 9), -4);
        Check.due("eight are kept", x.count(2), 8);
        Check.due("eight numbers were given", x.count(4), 8);
        Check.due("the last is as it was", x.certificate(7, 2), 1);
        Check.due("one is struck", x.strike(4), 7);
        Check.due("room for one", x.guess(0, 0, 0, 2, 9), 8);
        Check.due("full again", x.guess(0, 0, 0, 1, 9), -4);
    }

    @Says(at = "Promise 22", words = "FULL: there are 8; NONE: there is none.")
    private static void badAheadOfFullAheadOfNone(HiddenRelations x) {
        guesses(x, 0, 8);
        x.term(0, 1, 1);
        Check.due("bad, full, none", x.guess(6, 0, 0, 32, 0), -1);
        Check.due("bad r", x.guess(0, 1, 0, 32, 0), -1);
        Check.due("bad used", x.guess(0, 0, 0, 33, 0), -1);
        Check.due("bad high", x.guess(0, 0, 0, 32, 10), -1);
        Check.due("full, none", x.guess(0, 0, 0, 32, 0), -4);
        x.strike(0);
        Check.due("none", x.guess(0, 0, 0, 32, 0), -3);
    }

    @Says(at = "Terms 3", words = "each further one 1 more, also behind some that were struck.")
    private static void numbersGoOnBehindStruckOnes(HiddenRelations x) {
        guesses(x, 0, 3);
        x.strike(2);
        Check.due("behind the last that was struck", x.guess(0, 0, 0, 1, 9), 3);
        x.strike(0);
        Check.due("behind the first that was struck", x.guess(0, 0, 0, 1, 9), 4);
        x.strike(1);
        x.strike(3);
        x.strike(4);
        Check.due("none is left", x.count(2), 0);
        Check.due("behind all", x.guess(0, 0, 0, 1, 9), 5);
        Check.due("numbers given", x.count(4), 6);
    }

    // certificates and proofs

    private static int[] noNumbers() {
        return new int[] {-1, 1, 3, 100, LEAST, GREATEST};
    }

    /** Numbers 0 and 2 stand, 1 is struck. */
    private static void twoKept(HiddenRelations x) {
        guesses(x, 0, 3);
        x.strike(1);
    }

    @Says(at = "Promise 23", words = "NONE: THE LEDGER has no such number.")
    private static void certificateOfNoNumber(HiddenRelations x) {
        twoKept(x);
        for (int number : noNumbers()) {
            Check.due("certificate(" + number + ", 0)", x.certificate(number, 0), -3);
        }
        Check.due("that stands", x.certificate(2, 5), 97);
    }

    @Says(at = "Promise 23", words = "BAD: what;")
    private static void certificateOfNoSuchThing(HiddenRelations x) {
        twoKept(x);
        int[] none = {-1, 6, LEAST, GREATEST};
        for (int what : none) {
            Check.due("certificate(0, " + what + ")", x.certificate(0, what), -1);
            Check.due("BAD ahead of NONE", x.certificate(1, what), -1);
        }
    }

    @Says(at = "Promise 24", words = "NONE: no such number;")
    private static void proofOfNoNumber(HiddenRelations x) {
        twoKept(x);
        for (int number : noNumbers()) {
            Check.due("proof(" + number + ", 0, 0)", x.proof(number, 0, 0), -3);
            Check.due("NONE ahead of BAD", x.proof(number, -1, 10), -3);
        }
    }

    @Says(at = "Promise 24", words = "BAD: j (below how many it has), k.")
    private static void proofOfNoPolynomial(HiddenRelations x) {
        x.guess(0, 0, 3, 4, 9);
        x.guess(0, 1, 1, 4, 9);
        x.guess(0, 2, 2, 4, 9);
        x.guess(0, 1, 3, 4, 9);
        int[] has = {2, 2, 3, 4};
        for (int number = 0; number < 4; number++) {
            Check.due("the last", x.proof(number, has[number] - 1, 9), 0);
            int[] none = {-1, has[number], LEAST, GREATEST};
            for (int j : none) {
                Check.due("proof(" + number + ", " + j + ", 0)", x.proof(number, j, 0), -1);
            }
        }
    }

    @Says(at = "Promise 24", words = "In front of x^k (k 0 .. 9) in p_j of a CERTIFICATE's row.")
    private static void proofOfNoPower(HiddenRelations x) {
        x.term(0, 9, 1);
        x.guess(0, 0, 0, 32, 9);
        proof(x, 0, 0, 0, 0, 0, 0, 0, 0, 0, 0, 0, 1);
        proof(x, 0, 1, 96);
        int[] none = {-1, 10, 32, LEAST, GREATEST};
        for (int k : none) {
            Check.due("proof(0, 0, " + k + ")", x.proof(0, 0, k), -1);
            Check.due("proof(0, 1, " + k + ")", x.proof(0, 1, k), -1);
        }
    }

    // test

    @Says(at = "Promise 25", words = "are 0 ahead of the first that is not (32: all), by the CERTIFICATE's row and KIND, for a SERIES now.")
    private static void testFromNoneToAll(HiddenRelations x) {
        Check.text(x, "1/(1-x)", 0);
        x.guess(0, 0, 0, 8, 9);
        Check.due("all", x.test(0, 0), 32);
        x.term(0, 31, 5);
        Check.due("all but the last", x.test(0, 0), 31);
        x.term(0, 0, 2);
        Check.due("none", x.test(0, 0), 0);
        Check.due("of nothing: 1 is left", x.test(0, 5), 0);
        x.term(0, 0, 1);
        x.term(0, 1, 2);
        Check.due("one", x.test(0, 0), 1);
    }

    @Says(at = "Promise 25", words = "by the CERTIFICATE's row and KIND, for a SERIES now.")
    private static void testOfOneBehindAnother(HiddenRelations x) {
        Check.text(x, "1/(1-x)", 0);
        Check.text(x, "1/(1-x-x^11)", 1);
        x.guess(0, 0, 0, 8, 9);
        for (int i = 0; i < 2; i++) {
            Check.due("itself", x.test(0, 0), 32);
            Check.due("another", x.test(0, 1), 11);
            Check.due("told on", x.toldOn(0, 2), 1);
            Check.due("to the last", x.test(0, 2), 32);
        }
    }

    @Says(at = "Terms 3", words = "HOLDS: how many TERMS of p_0 f_0 + .. are 0 ahead of the first that is not (32: all).")
    private static void guessesInTheLeastField(HiddenRelations x) {
        x.field(2);
        Check.text(x, "x/(1+x+x^3)", 0);
        Check.due("rational", x.guess(0, 0, 0, 8, 3), 0);
        certificate(x, 0, 0, 2, 8, 3, 32, 2);
        proof(x, 0, 0, 0, 1);
        proof(x, 0, 1, 1, 1, 0, 1);
        Check.due("test", x.test(0, 0), 32);
        Check.due("test of another", x.test(0, 1), 1);
        Check.due("told on", x.toldOn(0, 1), 1);
        Check.due("test of what was told on", x.test(0, 1), 32);
    }

    @Says(at = "Promise 25", words = "BAD: series; NONE: no such number; NOT: its p is not that of THE FIELD.")
    private static void testInAnotherField(HiddenRelations x) {
        twoKept(x);
        x.field(89);
        Check.due("NOT", x.test(0, 0), -2);
        Check.due("NONE ahead of NOT", x.test(1, 0), -3);
        Check.due("BAD ahead of NONE", x.test(1, 6), -1);
        Check.due("BAD ahead of NOT", x.test(0, 6), -1);
        x.field(97);
        Check.due("the field again", x.test(0, 0), 32);
    }

    @Says(at = "Promise 25", words = "BAD: series; NONE: no such number;")
    private static void testOfNone(HiddenRelations x) {
        twoKept(x);
        for (int s : NO_SERIES) {
            Check.due("test(0, " + s + ")", x.test(0, s), -1);
        }
        for (int number : noNumbers()) {
            Check.due("test(" + number + ", 0)", x.test(number, 0), -3);
        }
    }

    // told on

    @Says(at = "Terms 3", words = "TOLD ON by a CERTIFICATE of KIND 0, p that of THE FIELD")
    private static void toldOnByOtherKinds(HiddenRelations x) {
        Check.text(x, "1/(1-x)", 0);
        x.guess(0, 0, 1, 8, 9);
        x.guess(0, 1, 1, 8, 9);
        x.guess(0, 2, 1, 8, 9);
        x.term(3, 3, 3);
        Check.due("algebraic, the same row", x.toldOn(1, 3), -2);
        Check.due("differential", x.toldOn(2, 3), -2);
        Check.terms("it stays", x, 3, 0, 0, 0, 3);
        Check.due("rational", x.toldOn(0, 3), 1);
        Check.due("told on to the last", x.at(3, 31), 1);
    }

    @Says(at = "Terms 3", words = "TOLD ON by a CERTIFICATE of KIND 0, p that of THE FIELD")
    private static void toldOnInAnotherField(HiddenRelations x) {
        Check.text(x, "2/(1-x)", 0);
        x.guess(0, 0, 1, 8, 9);
        x.field(101);
        x.term(3, 3, 3);
        Check.due("another field", x.toldOn(0, 3), -2);
        Check.terms("it stays", x, 3, 0, 0, 0, 3);
        x.field(97);
        Check.due("the field again", x.toldOn(0, 3), 1);
        Check.due("told on to the last", x.at(3, 31), 2);
    }

    @Says(at = "Terms 3", words = "whose p_1 has at x^0 a number that isn't 0")
    private static void toldOnByWhatHasNone(HiddenRelations x) {
        x.term(0, 3, 1);
        Check.due("x A is 0 up to x^3", x.guess(0, 0, 0, 4, 1), 0);
        proof(x, 0, 0);
        proof(x, 0, 1, 0, 1);
        Check.due("NOT", x.toldOn(0, 0), -2);
        Check.terms("it stays", x, 0, 0, 0, 0, 1);
    }

    @Says(at = "Terms 3", words = "the SERIES -p_0 by p_1.")
    private static void toldOnByNothing(HiddenRelations x) {
        x.guess(0, 0, 0, 32, 0);
        proof(x, 0, 0);
        proof(x, 0, 1, 1);
        x.term(5, 31, 1);
        Check.due("toldOn", x.toldOn(0, 5), 1);
        Check.terms("nothing", x, 5);
    }

    @Says(at = "Terms 3", words = "the SERIES -p_0 by p_1.")
    private static void toldOnByTheGreatest(HiddenRelations x) {
        x.field(997);
        Check.text(x, "(2+3*x^9)/(5-7*x+x^9)", 0);
        Check.due("guess", x.guess(0, 0, 0, 32, 9), 0);
        Check.due("its height", x.certificate(0, 3), 9);
        Check.due("toldOn", x.toldOn(0, 1), 1);
        x.mix(0, 1, 1, -1, 2);
        Check.due("all terms are alike", x.zeros(2), 32);
    }

    @Says(at = "Promise 26", words = "BAD: series; NONE: no such number; NOT: it can't be.")
    private static void toldOnOfNone(HiddenRelations x) {
        twoKept(x);
        for (int s : NO_SERIES) {
            Check.due("toldOn(0, " + s + ")", x.toldOn(0, s), -1);
            Check.due("BAD ahead of NONE", x.toldOn(1, s), -1);
        }
        for (int number : noNumbers()) {
            Check.due("toldOn(" + number + ", 0)", x.toldOn(number, 0), -3);
        }
        x.field(2);
        Check.due("NONE ahead of NOT", x.toldOn(1, 0), -3);
        Check.due("BAD ahead of NOT", x.toldOn(0, 6), -1);
        Check.due("NOT", x.toldOn(0, 0), -2);
    }

    // strike, listed

    @Says(at = "Promise 27", words = "The CERTIFICATE of a number is struck: how many THE LEDGER has.")
    private static void strikeFromEightToNone(HiddenRelations x) {
        guesses(x, 0, 8);
        int[] turns = {7, 0, 3, 4, 1, 6, 2, 5};
        for (int i = 0; i < 8; i++) {
            Check.due("strike(" + turns[i] + ")", x.strike(turns[i]), 7 - i);
            Check.due("count(2)", x.count(2), 7 - i);
        }
        Check.due("none stands", x.strike(0), -3);
    }

    @Says(at = "Promise 27", words = "NONE: no such number.")
    private static void strikeOfNoNumber(HiddenRelations x) {
        Check.due("an empty ledger", x.strike(0), -3);
        twoKept(x);
        for (int number : noNumbers()) {
            Check.due("strike(" + number + ")", x.strike(number), -3);
        }
        Check.due("two stand", x.count(2), 2);
    }

    @Says(at = "Promise 28", words = "Which number the i-th (from 0, as they came) of THE LEDGER has.")
    private static void listedFromFirstToLast(HiddenRelations x) {
        guesses(x, 0, 8);
        for (int i = 0; i < 8; i++) {
            Check.due("listed(" + i + ")", x.listed(i), i);
        }
        x.strike(0);
        x.strike(4);
        guesses(x, 8, 10);
        int[] want = {1, 2, 3, 5, 6, 7, 8, 9};
        for (int i = 0; i < 8; i++) {
            Check.due("listed(" + i + ") behind struck ones", x.listed(i), want[i]);
        }
    }

    @Says(at = "Promise 28", words = "NONE: it has not so many.")
    private static void listedBehindTheLast(HiddenRelations x) {
        for (int has = 0; has <= 8; has++) {
            int[] none = {-1, has, has + 1, 9, LEAST, GREATEST};
            for (int i : none) {
                Check.due("listed(" + i + ") of " + has, x.listed(i), -3);
            }
            x.guess(0, 0, 0, 1, 9);
        }
        x.strike(7);
        Check.due("behind a struck one", x.listed(7), -3);
    }
}
