/** Boundary cases of the choice and its basis: promises 13 to 21. */
final class ChoiceEdges {
    private static final int LEAST = Integer.MIN_VALUE;
    private static final int GREATEST = Integer.MAX_VALUE;
    private static final int[] NO_SERIES = {-1, 6, LEAST, GREATEST};

    private ChoiceEdges() {
    }

    /** Each chosen series is a number alone, and the order is 32. */
    private static void choiceOfNumbers(HiddenRelations x, int... numbers) {
        for (int i = 0; i < numbers.length; i++) {
            x.term(i, 0, numbers[i]);
        }
        x.choose((1 << numbers.length) - 1);
        x.order(32);
    }

    private static void polynomial(HiddenRelations x, int i, int j, int... want) {
        for (int k = 0; k <= 32; k++) {
            Check.due("entry(" + i + ", " + j + ", " + k + ")", x.entry(i, j, k), k < want.length ? want[k] : 0);
        }
    }

    // the set, the shifts, the order

    @Says(at = "Promise 13", words = "THE CHOICE is of a set of SERIES: m.")
    private static void chooseOneToFour(HiddenRelations x) {
        for (int set = 1; set < 64; set++) {
            int m = Integer.bitCount(set);
            if (m <= 4) {
                Check.due("choose(" + set + ")", x.choose(set), m);
                Check.due("the set", x.count(5), set);
                Check.due("m", x.told(0), m);
            }
        }
    }

    private static void noChoice(HiddenRelations x, int... sets) {
        x.choose(10);
        for (int set : sets) {
            Check.due("choose(" + set + ")", x.choose(set), -1);
            Check.due("the set stays", x.count(5), 10);
        }
    }

    @Says(at = "Promise 13", words = "BAD: not 1 .. 4 of them")
    private static void chooseNone(HiddenRelations x) {
        noChoice(x, 0);
    }

    @Says(at = "Promise 13", words = "BAD: not 1 .. 4 of them")
    private static void chooseFiveOrSix(HiddenRelations x) {
        noChoice(x, 31, 47, 55, 59, 61, 62, 63);
    }

    @Says(at = "Promise 13", words = "or a bit that is no SERIES.")
    private static void chooseWhatIsNoSeries(HiddenRelations x) {
        noChoice(x, 64, 65, 71, 128, 1 << 30, LEAST, LEAST + 1, -1, -64, GREATEST);
    }

    @Says(at = "Terms 2", words = "in the order of their numbers f_0 .. f_(m - 1) (m 1 .. 4)")
    private static void chosenInTheOrderOfTheirNumbers(HiddenRelations x) {
        x.order(1);
        x.choose(60);
        x.term(4, 0, 1);
        for (int i = 0; i < 4; i++) {
            Check.due("degree of B_" + i, x.row(i, 0), i == 2 ? 1 : 0);
        }
    }

    @Says(at = "Promise 14", words = "SHIFT of a SERIES becomes s: what it was.")
    private static void liftFromLeastToGreatest(HiddenRelations x) {
        for (int s = 0; s < 6; s++) {
            Check.due("the greatest", x.lift(s, 9), 0);
            Check.due("the least", x.lift(s, 0), 9);
            Check.due("it was the least", x.lift(s, s), 0);
        }
        for (int s = 0; s < 6; s++) {
            Check.due("each has its own", x.lift(s, 0), s);
        }
    }

    @Says(at = "Promise 14", words = "SHIFT of a SERIES becomes s: what it was. BAD.")
    private static void liftOfNoSeries(HiddenRelations x) {
        for (int s : NO_SERIES) {
            Check.due("lift(" + s + ", 0)", x.lift(s, 0), -1);
        }
    }

    @Says(at = "Terms 2", words = "a SHIFT s_i (0 .. 9; 0 at first) for each SERIES")
    private static void liftTooSmallOrTooLarge(HiddenRelations x) {
        x.lift(5, 4);
        int[] none = {-1, 10, LEAST, GREATEST};
        for (int s : none) {
            Check.due("lift(5, " + s + ")", x.lift(5, s), -1);
        }
        Check.due("it stays", x.lift(5, 0), 4);
    }

    @Says(at = "Promise 15", words = "ORDER becomes n: what it was.")
    private static void orderFromLeastToGreatest(HiddenRelations x) {
        x.term(0, 0, 1);
        Check.due("order(1)", x.order(1), 8);
        Check.due("told(1)", x.told(1), 1);
        Check.due("one term is looked at", x.row(0, 0), 1);
        Check.due("order(32)", x.order(32), 1);
        Check.due("told(1)", x.told(1), 32);
        Check.due("all are looked at", x.row(0, 0), 32);
    }

    @Says(at = "Promise 15", words = "ORDER becomes n: what it was. BAD.")
    private static void orderTooSmallOrTooLarge(HiddenRelations x) {
        int[] none = {0, -1, 33, LEAST, GREATEST};
        for (int n : none) {
            Check.due("order(" + n + ")", x.order(n), -1);
            Check.due("it stays", x.told(1), 8);
        }
    }

    // what a row is

    @Says(at = "Terms 2", words = "HEIGHT of a row: the greatest of (degree of p_i) + s_i over the p_i that are not 0")
    private static void shiftOfWhatIsZeroDoesNotCount(HiddenRelations x) {
        x.term(0, 0, 1);
        x.choose(3);
        x.lift(0, 9);
        polynomial(x, 1, 0);
        polynomial(x, 1, 1, 1);
        Check.due("height of f_1 alone", x.row(1, 1), 0);
        Check.due("height of x^8 f_0", x.row(0, 1), 17);
    }

    @Says(at = "Terms 2", words = "PIVOT: the greatest i with that.")
    private static void pivotOfLikeOnes(HiddenRelations x) {
        choiceOfNumbers(x, 1, 3);
        Check.due("-3 f_0 + f_1 has pivot 1", x.row(1, 0), 0);
        polynomial(x, 1, 0, 94);
        polynomial(x, 1, 1, 1);
        Check.due("x^32 f_0 has pivot 0", x.row(0, 0), 32);
        polynomial(x, 0, 1);
    }

    @Says(at = "Terms 2", words = "PIVOT: the greatest i with that.")
    private static void pivotByAShift(HiddenRelations x) {
        choiceOfNumbers(x, 1, 3);
        x.lift(0, 1);
        Check.due("f_0 - f_1 by 3 has pivot 0", x.row(0, 0), 0);
        polynomial(x, 0, 0, 1);
        polynomial(x, 0, 1, 32);
        Check.due("x^32 f_1 has pivot 1", x.row(1, 0), 32);
        x.lift(1, 1);
        Check.due("of like shifts the greatest", x.row(1, 0), 0);
    }

    @Says(at = "Terms 2", words = "1 in front of the highest power of x in its p_i")
    private static void oneInFront(HiddenRelations x) {
        x.field(997);
        choiceOfNumbers(x, 996, 995, 994, 2);
        for (int i = 0; i < 4; i++) {
            int degree = x.row(i, 0);
            Check.due("degree of B_" + i, degree, i == 0 ? 32 : 0);
            Check.due("1 in front", x.entry(i, i, degree), 1);
        }
        polynomial(x, 1, 0, 995);
        polynomial(x, 3, 0, 2);
    }

    @Says(at = "Terms 2", words = "in p_i of each other one of them only powers of x that are less than this one")
    private static void onlyLesserPowersInOthers(HiddenRelations x) {
        Check.text(x, "1/(1-x)", 0);
        Check.text(x, "1", 1);
        x.choose(3);
        x.order(6);
        // (x - 1) f_0 + f_1 is 0; less it x^5 f_1 becomes (1 + .. + x^5) f_1 - f_0
        polynomial(x, 0, 0, 96, 1);
        polynomial(x, 0, 1, 1);
        polynomial(x, 1, 0, 96);
        polynomial(x, 1, 1, 1, 1, 1, 1, 1, 1);
        Check.text(x, "1", 0);
        Check.text(x, "1/(1-x)", 1);
        // f_0 + (x - 1) f_1 is 0; less it x^5 f_0 becomes (1 + .. + x^5) f_0 - f_1
        polynomial(x, 1, 0, 1);
        polynomial(x, 1, 1, 96, 1);
        polynomial(x, 0, 0, 1, 1, 1, 1, 1, 1);
        polynomial(x, 0, 1, 96);
    }

    @Says(at = "Terms 2", words = "each RELATION is a sum of B_0 .. B_(m - 1), each times a polynomial (there is one such BASIS).")
    private static void basisInTheLeastField(HiddenRelations x) {
        x.field(2);
        Check.text(x, "1", 0);
        Check.text(x, "1/(1+x+x^2)", 1);
        x.choose(3);
        x.order(32);
        polynomial(x, 1, 0, 1);
        polynomial(x, 1, 1, 1, 1, 1);
        Check.due("degree of B_0", x.row(0, 0), 30);
        Check.due("zeros by B_0", x.row(0, 2), 32);
    }

    @Says(at = "Terms 2", words = "with TERMS 0 .. ORDER - 1 of p_0 f_0 + .. + p_(m - 1) f_(m - 1) all 0.")
    private static void termsBelowTheOrderAlone(HiddenRelations x) {
        x.term(0, 5, 1);
        for (int n = 1; n <= 5; n++) {
            x.order(n);
            Check.due("nothing below x^" + n, x.row(0, 0), 0);
        }
        x.order(6);
        Check.due("x^5 is below x^6", x.row(0, 0), 1);
        x.term(0, 5, 0);
        x.term(0, 31, 1);
        x.order(31);
        Check.due("x^31 isn't below x^31", x.row(0, 0), 0);
        x.order(32);
        Check.due("x^31 is below x^32", x.row(0, 0), 1);
    }

    @Says(at = "Terms 2", words = "DEGREE of B_i: that of its p_i (32 at most).")
    private static void degreeOfThirtyTwo(HiddenRelations x) {
        choiceOfNumbers(x, 7);
        Check.due("degree", x.row(0, 0), 32);
        int[] want = new int[33];
        want[32] = 1;
        polynomial(x, 0, 0, want);
        x.lift(0, 9);
        Check.due("degree with a shift", x.row(0, 0), 32);
        Check.due("height with a shift", x.row(0, 1), 41);
        Check.due("the entry stays", x.entry(0, 0, 32), 1);
    }

    @Says(at = "Terms 2", words = "DEGREE of B_i: that of its p_i (32 at most).")
    private static void degreeOfNone(HiddenRelations x) {
        x.choose(15);
        for (int i = 0; i < 4; i++) {
            Check.due("degree", x.row(i, 0), 0);
            for (int j = 0; j < 4; j++) {
                polynomial(x, i, j, i == j ? 1 : 0);
            }
        }
    }

    // what is told of the basis

    @Says(at = "Promise 16", words = "all DEGREES of the BASIS together (2), the least HEIGHT of a row of it (3), the greatest (4)")
    private static void toldOfNothing(HiddenRelations x) {
        x.choose(15);
        int[] want = {4, 8, 0, 0, 0, 0};
        for (int what = 0; what < 6; what++) {
            Check.due("told(" + what + ")", x.told(what), want[what]);
        }
    }

    @Says(at = "Promise 16", words = "all DEGREES of the BASIS together (2), the least HEIGHT of a row of it (3), the greatest (4)")
    private static void toldOfTheGreatest(HiddenRelations x) {
        choiceOfNumbers(x, 1, 1, 1, 1);
        for (int s = 0; s < 4; s++) {
            x.lift(s, 9);
        }
        int[] want = {4, 32, 32, 9, 41, 1};
        for (int what = 0; what < 6; what++) {
            Check.due("told(" + what + ")", x.told(what), want[what]);
        }
    }

    @Says(at = "Promise 16", words = "the number of the first row of least HEIGHT (5)")
    private static void firstOfLikeRows(HiddenRelations x) {
        x.choose(15);
        x.order(1);
        Check.due("all alike", x.told(5), 0);
        x.lift(0, 1);
        Check.due("behind a shift", x.told(5), 1);
        x.lift(1, 1);
        x.lift(2, 1);
        Check.due("the last alone", x.told(5), 3);
        x.lift(3, 2);
        Check.due("three alike", x.told(5), 0);
    }

    @Says(at = "Promise 16", words = "the number of the first row of least HEIGHT (5). BAD.")
    private static void toldOfNoSuchThing(HiddenRelations x) {
        int[] none = {-1, 6, LEAST, GREATEST};
        for (int what : none) {
            Check.due("told(" + what + ")", x.told(what), -1);
        }
    }

    // rows of the basis

    private static void noRow(String call, int answer) {
        Check.due(call, answer, -1);
    }

    @Says(at = "Promise 17", words = "BAD: i, what.")
    private static void rowOfNoSuchNumber(HiddenRelations x) {
        for (int m = 1; m <= 4; m++) {
            x.choose((1 << m) - 1);
            Check.due("the last", x.row(m - 1, 0), 0);
            int[] none = {-1, m, LEAST, GREATEST};
            for (int i : none) {
                noRow("row(" + i + ", 0) of " + m, x.row(i, 0));
            }
        }
    }

    @Says(at = "Promise 17", words = "BAD: i, what.")
    private static void rowOfNoSuchThing(HiddenRelations x) {
        int[] none = {-1, 3, LEAST, GREATEST};
        for (int what : none) {
            noRow("row(0, " + what + ")", x.row(0, what));
        }
    }

    @Says(at = "Promise 17", words = "how many TERMS of p_0 f_0 + .. by it are 0 ahead of the first that is not (2; 32: all).")
    private static void zerosOfARow(HiddenRelations x) {
        Check.due("of nothing all", x.row(0, 2), 32);
        x.term(0, 0, 1);
        Check.due("the order at least", x.row(0, 2), 8);
        x.order(1);
        Check.due("one", x.row(0, 2), 1);
        x.order(31);
        Check.due("all but one", x.row(0, 2), 31);
        x.order(32);
        Check.due("all", x.row(0, 2), 32);
        x.shift(0, 31, 0);
        x.order(4);
        Check.due("more than the order", x.row(0, 2), 31);
    }

    @Says(at = "Promise 18", words = "In B_i, in front of x^k (k 0 .. 32) in p_j. BAD.")
    private static void entryOfNoSuchPower(HiddenRelations x) {
        choiceOfNumbers(x, 1, 1);
        Check.due("the least", x.entry(1, 1, 0), 1);
        Check.due("the greatest", x.entry(0, 0, 32), 1);
        int[] none = {-1, 33, 42, LEAST, GREATEST};
        for (int k : none) {
            noRow("entry(0, 0, " + k + ")", x.entry(0, 0, k));
            noRow("entry(1, 1, " + k + ")", x.entry(1, 1, k));
        }
    }

    @Says(at = "Promise 18", words = "In B_i, in front of x^k (k 0 .. 32) in p_j. BAD.")
    private static void entryOfNoSuchPlace(HiddenRelations x) {
        for (int m = 1; m <= 4; m++) {
            x.choose((1 << m) - 1);
            Check.due("the last", x.entry(m - 1, m - 1, 0), 1);
            int[] none = {-1, m, LEAST, GREATEST};
            for (int i : none) {
                noRow("entry(" + i + ", 0, 0) of " + m, x.entry(i, 0, 0));
                noRow("entry(0, " + i + ", 0) of " + m, x.entry(0, i, 0));
            }
        }
    }

    @Says(at = "Promise 19", words = "TERM k of p_0 f_0 + .. by B_i. BAD.")
    private static void restOfNoSuchTerm(HiddenRelations x) {
        for (int k = 0; k < 32; k++) {
            x.term(0, k, 1);
        }
        Check.due("the last below the order", x.rest(0, 7), 0);
        Check.due("the first that isn't", x.rest(0, 8), 1);
        Check.due("the last", x.rest(0, 31), 1);
        int[] none = {-1, 32, LEAST, GREATEST};
        for (int k : none) {
            noRow("rest(0, " + k + ")", x.rest(0, k));
        }
    }

    @Says(at = "Promise 19", words = "TERM k of p_0 f_0 + .. by B_i. BAD.")
    private static void restOfNoSuchRow(HiddenRelations x) {
        for (int m = 1; m <= 4; m++) {
            x.choose((1 << m) - 1);
            int[] none = {-1, m, LEAST, GREATEST};
            for (int i : none) {
                noRow("rest(" + i + ", 0) of " + m, x.rest(i, 0));
            }
        }
    }

    @Says(at = "Promise 20", words = "A SERIES becomes p_0 f_0 + .. by B_i: 1.")
    private static void comesToWhatIsChosen(HiddenRelations x) {
        x.term(0, 0, 1);
        x.term(0, 1, 2);
        x.order(31);
        Check.due("to itself", x.comes(0, 0), 1);
        Check.due("the last term alone", x.zeros(0), 31);
        Check.due("the last term", x.at(0, 31), 1);
        x.order(32);
        Check.due("once more", x.comes(0, 0), 1);
        Check.terms("nothing is left", x, 0);
        Check.due("of nothing", x.comes(0, 5), 1);
        Check.terms("of nothing", x, 5);
    }

    @Says(at = "Promise 20", words = "A SERIES becomes p_0 f_0 + .. by B_i: 1. BAD.")
    private static void comesOfNone(HiddenRelations x) {
        x.term(0, 0, 1);
        for (int s : NO_SERIES) {
            noRow("comes(0, " + s + ")", x.comes(0, s));
        }
        int[] none = {-1, 1, 2, LEAST, GREATEST};
        for (int i : none) {
            noRow("comes(" + i + ", 0)", x.comes(i, 0));
        }
        Check.terms("it stays", x, 0, 1);
    }

    // relates

    /** Row 0 holds ints: these, and no more. */
    private static int relates(HiddenRelations x, int... numbers) {
        x.sheet(0, 1, numbers.length);
        for (int i = 0; i < numbers.length; i++) {
            x.put(0, i, numbers[i]);
        }
        return x.relates(0);
    }

    /** p_0 and p_1 are numbers alone. */
    private static int relatesTwo(HiddenRelations x, int ofFirst, int ofSecond) {
        return relates(x, ofFirst, 0, 0, 0, 0, 0, 0, 0, ofSecond);
    }

    /** Row 0 holds 40 ints: one of them is v, the others are 0. */
    private static int relatesOne(HiddenRelations x, int place, int v) {
        x.sheet(0, 1, 40);
        x.put(0, place, v);
        return x.relates(0);
    }

    @Says(at = "Promise 21", words = "BAD; -11.")
    private static void relatesOfNoRow(HiddenRelations x) {
        int[] none = {-1, 3, LEAST, GREATEST};
        for (int row : none) {
            Check.due("relates(" + row + ")", x.relates(row), -1);
        }
    }

    @Says(at = "Promise 21", words = "BAD; -11.")
    private static void relatesOfAMissingRow(HiddenRelations x) {
        for (int row = 0; row < 3; row++) {
            Check.due("relates(" + row + ")", x.relates(row), -11);
        }
    }

    @Says(at = "Promise 21", words = "a row of nothing but 0 makes none.")
    private static void relatesOfNothingButZero(HiddenRelations x) {
        Check.due("no numbers", relates(x), 0);
        Check.due("one 0", relates(x, 0), 0);
        Check.due("40 of them", relatesOne(x, 0, 0), 0);
        Check.due("0 by p", relates(x, 97, -97, 970), 0);
        Check.due("not 0", relates(x, 0, 0, 1), 1);
        x.field(2);
        Check.due("0 by the least p", relates(x, 2, -2, 4, LEAST), 0);
        x.term(0, 0, 1);
        Check.due("not 0 by the least p, but no relation", relates(x, 2, -1), 0);
    }

    @Says(at = "Terms 2", words = "A RELATION is a row of m polynomials p_0 .. p_(m - 1), not all 0")
    private static void relatesByTheOrder(HiddenRelations x) {
        x.term(0, 7, 1);
        x.order(7);
        Check.due("x^7 isn't below x^7", relates(x, 1), 1);
        x.order(8);
        Check.due("x^7 is below x^8", relates(x, 1), 0);
        Check.due("x times it isn't", relates(x, 0, 1), 1);
        x.shift(0, 24, 0);
        x.order(31);
        Check.due("x^31 isn't below x^31", relates(x, 1), 1);
        x.order(32);
        Check.due("x^31 is below x^32", relates(x, 1), 0);
        Check.due("x^32 isn't", relates(x, 0, 1), 1);
    }

    @Says(at = "Promise 21", words = "p_i has in front of x^k (k 0 .. 7) number 8 i + k")
    private static void relatesByEachPlace(HiddenRelations x) {
        x.choose(15);
        for (int place = 0; place < 32; place++) {
            int of = place / 8;
            x.term(of, 0, 1);
            x.order(place % 8 + 1);
            Check.due("place " + place, relatesOne(x, place, 1), 0);
            if (place % 8 > 0) {
                x.order(place % 8);
                Check.due("place " + place + " to its order", relatesOne(x, place, 1), 1);
            }
            x.term(of, 0, 0);
            x.order(32);
            Check.due("place " + place + " of nothing", relatesOne(x, place, 1), 1);
        }
    }

    @Says(at = "Promise 21", words = "(0, where there is none; taken by p)")
    private static void relatesOfAShortRow(HiddenRelations x) {
        x.choose(3);
        x.term(0, 0, 1);
        x.term(1, 0, 96);
        x.order(32);
        Check.due("p_0 alone", relates(x, 1), 0);
        Check.due("p_0 whole", relates(x, 1, 0, 0, 0, 0, 0, 0, 0), 0);
        Check.due("p_1 is 0", relatesTwo(x, 1, 0), 0);
        Check.due("p_1 is 1", relatesTwo(x, 1, 1), 1);
    }

    @Says(at = "Promise 21", words = "p_i has in front of x^k (k 0 .. 7) number 8 i + k")
    private static void relatesByNoHigherPower(HiddenRelations x) {
        x.choose(3);
        x.order(32);
        x.term(0, 9, 1);
        x.term(1, 9, -1);
        Check.due("f_0 + f_1", relatesTwo(x, 1, 1), 1);
        Check.due("f_0 + f_1 again", relatesTwo(x, 1, 1), 1);
        Check.due("f_0 - f_1", relatesTwo(x, 1, -1), 0);
    }

    @Says(at = "Promise 21", words = "(0, where there is none; taken by p)")
    private static void relatesByP(HiddenRelations x) {
        x.choose(3);
        x.term(0, 0, 1);
        x.term(1, 0, 1);
        x.order(32);
        Check.due("1 and -1", relatesTwo(x, 1, -1), 1);
        Check.due("98 and 96", relatesTwo(x, 98, 96), 1);
        Check.due("the least and the greatest make -1", relatesTwo(x, LEAST, GREATEST), 0);
        Check.due("the greatest and what takes it back", relatesTwo(x, GREATEST, -GREATEST), 1);
    }

    @Says(at = "Promise 21", words = "i below m; a row of nothing but 0 makes none.")
    private static void relatesByWhatIsBelowM(HiddenRelations x) {
        for (int m = 1; m <= 4; m++) {
            x.choose((1 << m) - 1);
            Check.due("the last of " + m, relatesOne(x, 8 * m - 1, 1), 1);
            Check.due("the first behind", relatesOne(x, 8 * m, 1), 0);
            Check.due("the last that a row has", relatesOne(x, 39, 1), 0);
        }
    }
}
