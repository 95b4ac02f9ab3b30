/** Boundary cases of a new object, of its last promised call, and of the counts: promises 1 and 35. */
final class NewObjectEdges {
    private NewObjectEdges() {
    }

    @Says(at = "What it is", words = "An object is used for at most 512 calls after it has been made")
    private static void theLastPromisedCall(HiddenRelations x) {
        int[] catalan = {1, 1, 2, 5, 14, 42, 132, 429, 1430, 4862};
        for (int k = 0; k < 10; k++) {
            x.term(0, k, catalan[k]);
        }
        int number = 0;
        for (int calls = 10; calls < 510; calls += 2) {
            Check.due("call " + (calls + 1), x.guess(0, 1, 2, 10, 9), number);
            Check.due("call " + (calls + 2), x.strike(number), 0);
            number++;
        }
        Check.due("call 511", x.guess(0, 1, 2, 10, 1), 250);
        Check.due("call 512", x.proof(250, 2, 1), 1);
    }

    @Says(at = "Promise 1", words = "As told at first; THE LEDGER is empty, for all objects.")
    private static void ledgerIsEmpty(HiddenRelations x) {
        Check.due("none is kept", x.count(2), 0);
        Check.due("none is listed", x.listed(0), -3);
        Check.due("none has the first number", x.certificate(0, 0), -3);
        Check.due("none has the number below", x.certificate(-1, 0), -3);
    }

    @Says(at = "Terms 3", words = "as an object is made THE LEDGER is empty and numbers begin at 0, for all.")
    private static void numbersBeginAnew(HiddenRelations x) {
        for (int i = 0; i < 9; i++) {
            Check.due("guess", x.guess(0, 0, 0, 1, 9), i < 8 ? i : -4);
        }
        HiddenRelations y = new HiddenRelations();
        Check.due("the full ledger is empty for a new object", y.count(2), 0);
        Check.due("no number was given", y.count(4), 0);
        Check.due("no certificate stands", y.certificate(7, 5), -3);
        Check.due("the first number is 0 again", y.guess(0, 0, 0, 1, 9), 0);
    }

    @Says(at = "Terms 1", words = "97 at first")
    private static void fieldAtFirst(HiddenRelations x) {
        Check.due("p", x.count(0), 97);
        x.term(0, 0, 96);
        Check.due("the greatest number", x.at(0, 0), 96);
        x.term(0, 0, 97);
        Check.due("what is 0", x.at(0, 0), 0);
    }

    @Says(at = "Terms 1", words = "SERIES 0 .. 5 are 0 at first.")
    private static void seriesAtFirst(HiddenRelations x) {
        Check.due("none isn't 0", x.count(6), 0);
        for (int s = 0; s < 6; s++) {
            Check.terms("at first", x, s);
        }
    }

    @Says(at = "Promise 10", words = "come behind THE TAPE: how many it has.")
    private static void tapeAtFirst(HiddenRelations x) {
        Check.due("no bytes", x.count(1), 0);
        Check.due("the first byte", x.feed(1, 'x'), 1);
    }

    @Says(at = "Terms 2", words = "(a set, bits; at first 0 alone)")
    private static void choiceAtFirst(HiddenRelations x) {
        Check.due("the set", x.count(5), 1);
        Check.due("m", x.told(0), 1);
        x.term(1, 0, 1);
        Check.due("series 1 isn't in it", x.row(0, 0), 0);
        x.term(0, 7, 1);
        Check.due("series 0 is", x.row(0, 0), 1);
    }

    @Says(at = "Terms 2", words = "a SHIFT s_i (0 .. 9; 0 at first) for each SERIES")
    private static void shiftsAtFirst(HiddenRelations x) {
        for (int s = 0; s < 6; s++) {
            Check.due("lift(" + s + ", 9)", x.lift(s, 9), 0);
        }
    }

    @Says(at = "Terms 2", words = "an ORDER (1 .. 32; 8 at first)")
    private static void orderAtFirst(HiddenRelations x) {
        Check.due("told(1)", x.told(1), 8);
        x.term(0, 0, 1);
        Check.due("x^8 is needed", x.row(0, 0), 8);
        Check.due("order(8)", x.order(8), 8);
    }

    @Says(at = "Terms 4", words = "or are missing (at first).")
    private static void rowsAtFirst(HiddenRelations x) {
        Check.due("none is there", x.count(3), 0);
        for (int row = 0; row < 3; row++) {
            Check.due("put", x.put(row, 0, 0), -11);
            Check.due("get", Check.thrown(x, row, 0), 2);
        }
    }

    private static void counts(HiddenRelations x, int... want) {
        for (int what = 0; what < want.length; what++) {
            Check.due("count(" + what + ")", x.count(what), want[what]);
        }
    }

    @Says(at = "Promise 35", words = "How many: 0 p, 1 bytes of THE TAPE, 2 CERTIFICATES in THE LEDGER, 3 ROWS that aren't missing,"
        + " 4 numbers that THE LEDGER gave, 5 which SERIES THE CHOICE is of, as a set, 6 SERIES that aren't 0, as a set.")
    private static void countsAtTheirLeast(HiddenRelations x) {
        x.field(2);
        counts(x, 2, 0, 0, 0, 0, 1, 0);
    }

    @Says(at = "Promise 35", words = "How many: 0 p, 1 bytes of THE TAPE, 2 CERTIFICATES in THE LEDGER, 3 ROWS that aren't missing,"
        + " 4 numbers that THE LEDGER gave, 5 which SERIES THE CHOICE is of, as a set, 6 SERIES that aren't 0, as a set.")
    private static void countsAtTheirGreatest(HiddenRelations x) {
        x.field(997);
        for (int i = 0; i < 20; i++) {
            x.feed(4, 0);
        }
        for (int i = 0; i < 10; i++) {
            x.strike(i - 8);
            x.guess(0, 0, 0, 1, 9);
        }
        for (int s = 0; s < 6; s++) {
            x.term(s, 31, 1);
        }
        for (int row = 0; row < 3; row++) {
            x.sheet(row, row & 1, 0);
        }
        x.choose(60);
        counts(x, 997, 80, 8, 3, 10, 60, 63);
    }

    @Says(at = "Promise 35", words = "6 SERIES that aren't 0, as a set.")
    private static void aSeriesIsNotZeroByItsLastTermToo(HiddenRelations x) {
        for (int s = 0; s < 6; s++) {
            x.term(s, 31, -1);
            Check.due("the last term alone", x.count(6), 1 << s);
            x.term(s, 31, 97);
            Check.due("0 by p", x.count(6), 0);
            x.term(s, 0, 1);
            Check.due("the first term alone", x.count(6), 1 << s);
            x.term(s, 0, 0);
        }
    }

    @Says(at = "Promise 35", words = "BAD.")
    private static void countOfNoSuchThing(HiddenRelations x) {
        int[] none = {-1, 7, Integer.MIN_VALUE, Integer.MAX_VALUE};
        for (int what : none) {
            Check.due("count(" + what + ")", x.count(what), -1);
        }
    }
}
