/** Boundary cases of the tape and of texts: promises 10 and 11. */
final class TextEdges {
    private static final int BLANKS = 0x20202020;

    private TextEdges() {
    }

    private static void good(HiddenRelations x, String text, int... want) {
        Check.due(text, Check.text(x, text, 2), 1);
        Check.terms(text, x, 2, want);
    }

    private static void refused(HiddenRelations x, String text, int answer) {
        x.term(3, 4, 8);
        Check.due(text, Check.text(x, text, 3), answer);
        Check.terms("it stays behind " + text, x, 3, 0, 0, 0, 0, 8);
        Check.due("the tape is empty behind " + text, x.count(1), 0);
    }

    private static void fault(HiddenRelations x, String text, int place) {
        refused(x, text, -100 - place);
    }

    private static void hole(HiddenRelations x, String text, int place) {
        refused(x, text, -200 - place);
    }

    private static String many(String part, int times) {
        StringBuilder s = new StringBuilder();
        for (int i = 0; i < times; i++) {
            s.append(part);
        }
        return s.toString();
    }

    // the tape

    @Says(at = "Terms 1", words = "A TEXT is read from THE TAPE (80 bytes at most).")
    private static void tapeIsFullByFours(HiddenRelations x) {
        for (int i = 1; i <= 20; i++) {
            Check.due("feed", x.feed(4, BLANKS), 4 * i);
        }
        for (int n = 1; n <= 4; n++) {
            Check.due("no room for " + n, x.feed(n, BLANKS), -4);
        }
        Check.due("bytes", x.count(1), 80);
    }

    @Says(at = "Terms 1", words = "A TEXT is read from THE TAPE (80 bytes at most).")
    private static void textOfAllBytes(HiddenRelations x) {
        String sum = many("1+", 39);
        good(x, sum + "19", 58);
        good(x, many(" ", 79) + "x", 0, 1);
        good(x, "x" + many(" ", 79), 0, 1);
        fault(x, many("x", 80), 1);
        fault(x, many(" ", 79) + "+", 79);
        fault(x, sum + "1+", 80);
        hole(x, many(" ", 77) + "1/0", 78);
    }

    @Says(at = "Promise 10", words = "FULL: they have no room.")
    private static void feedIntoTheLastRoom(HiddenRelations x) {
        Check.feed(x, many(" ", 77));
        Check.due("no room for 4", x.feed(4, '1' | '2' << 8 | '3' << 16 | '4' << 24), -4);
        Check.due("none of them came", x.count(1), 77);
        Check.due("room for 3", x.feed(3, '5' | '6' << 8 | '7' << 16), 80);
        Check.due("no room for 1", x.feed(1, '8'), -4);
        Check.due("what came", x.text(0), 1);
        Check.terms("567", x, 0, 567 % 97);
        Check.due("room again", x.feed(4, BLANKS), 4);
    }

    @Says(at = "Promise 10", words = "n bytes (1 .. 4) of word, its lowest first, come behind THE TAPE: how many it has.")
    private static void feedOneToFour(HiddenRelations x) {
        int word = '1' | '2' << 8 | '3' << 16 | '4' << 24;
        int[] read = {1, 12, 123, 1234};
        for (int n = 1; n <= 4; n++) {
            Check.due("feed(" + n + ")", x.feed(n, word), n);
            Check.due("text", x.text(0), 1);
            Check.terms("the lowest " + n, x, 0, read[n - 1] % 97);
        }
    }

    @Says(at = "Promise 10", words = "BAD: n;")
    private static void feedOfNoBytes(HiddenRelations x) {
        int[] none = {0, 5, -1, -4, Integer.MIN_VALUE, Integer.MAX_VALUE};
        for (int n : none) {
            Check.due("feed(" + n + ")", x.feed(n, BLANKS), -1);
        }
        Check.due("none came", x.count(1), 0);
    }

    @Says(at = "Promise 10", words = "BAD: n; FULL: they have no room.")
    private static void feedOfNoBytesIntoNoRoom(HiddenRelations x) {
        Check.feed(x, many(" ", 80));
        Check.due("feed(0)", x.feed(0, BLANKS), -1);
        Check.due("feed(5)", x.feed(5, BLANKS), -1);
    }

    @Says(at = "Promise 10", words = "n bytes (1 .. 4) of word")
    private static void feedOfTheGreatestBytes(HiddenRelations x) {
        Check.due("all bits", x.feed(4, -1), 4);
        Check.due("begins no token", x.text(0), -100);
        Check.due("the highest byte alone", x.feed(4, 0x80 << 24 | 0x202078), 4);
        Check.due("begins no token", x.text(0), -103);
    }

    // when the tape is empty

    @Says(at = "Promise 11", words = "What THE TAPE, which is empty then, tells is a SERIES: 1. BAD (THE TAPE stays)")
    private static void tapeStaysBehindBad(HiddenRelations x) {
        Check.feed(x, "7*x");
        int[] none = {-1, 6, Integer.MIN_VALUE, Integer.MAX_VALUE};
        for (int s : none) {
            Check.due("text(" + s + ")", x.text(s), -1);
            Check.due("the tape stays", x.count(1), 3);
        }
        Check.due("it can be read", x.text(5), 1);
        Check.terms("7*x", x, 5, 0, 7);
    }

    @Says(at = "Promise 11", words = "What THE TAPE, which is empty then, tells is a SERIES: 1.")
    private static void tapeIsEmptyBehindEachReading(HiddenRelations x) {
        good(x, "x", 0, 1);
        Check.due("behind a text", x.count(1), 0);
        fault(x, "x+", 2);
        hole(x, "x/x", 1);
        Check.due("what comes is the first", x.feed(1, '4'), 1);
        Check.due("it alone is read", x.text(2), 1);
        Check.terms("4", x, 2, 4);
    }

    @Says(at = "Promise 11", words = "BAD (THE TAPE stays); -100 less the FAULT;")
    private static void badAheadOfAFault(HiddenRelations x) {
        Check.due("an empty tape", x.text(6), -1);
        Check.feed(x, "+");
        Check.due("a fault", x.text(6), -1);
        Check.due("the fault", x.text(0), -100);
    }

    // tokens

    @Says(at = "Terms 1", words = "NUMBERS (digits, 4 at most)")
    private static void numberOfFourDigits(HiddenRelations x) {
        good(x, "0", 0);
        good(x, "9", 9);
        good(x, "9999", 9999 % 97);
        good(x, "0097", 0);
        good(x, "0000", 0);
        good(x, "9999+9999", 2 * 9999 % 97);
    }

    @Says(at = "Terms 1", words = "a NUMBER of more digits")
    private static void numberOfFiveDigits(HiddenRelations x) {
        fault(x, "12345", 0);
        fault(x, "00001", 0);
        fault(x, " 1+00000", 3);
        fault(x, "x^00001", 2);
        fault(x, "x 12345", 2);
        fault(x, many("9", 80), 0);
    }

    @Says(at = "Terms 1", words = "TOKENS, each as long as can be")
    private static void numbersBesideOneAnother(HiddenRelations x) {
        fault(x, "12 34", 3);
        fault(x, "1 2", 2);
        good(x, "12", 12);
        fault(x, "2x", 1);
        fault(x, "x2", 1);
    }

    @Says(at = "Terms 1", words = "SIGNS x + - * / ^ ( ) ; blanks (32) may stand between.")
    private static void blanksBetweenAllTokens(HiddenRelations x) {
        good(x, " - ( 2 + x ) ^ 2 * 3 / 1 - 4 ", 81, 85, 94);
        fault(x, " ", 1);
        fault(x, many(" ", 80), 80);
    }

    @Says(at = "Terms 1", words = "also of a byte that begins none")
    private static void bytesThatBeginNoToken(HiddenRelations x) {
        for (int b = 0; b < 256; b++) {
            if ("x+-*/^() 0123456789".indexOf(b) < 0) {
                Check.due("feed", x.feed(2, 'x' | b << 8), 2);
                Check.due("byte " + b, x.text(0), -101);
            }
        }
    }

    @Says(at = "Terms 1", words = "also of a byte that begins none")
    private static void whatElseLooksBlankIsNone(HiddenRelations x) {
        fault(x, "\tx", 0);
        fault(x, "x\n", 1);
        fault(x, "x+\u0000", 2);
        fault(x, "x+\u00a0x", 2);
        fault(x, "X", 0);
    }

    // what may stand where

    @Says(at = "Terms 1", words = "SUM: perhaps - , then TERM { + TERM or - TERM }.")
    private static void minusAtABeginning(HiddenRelations x) {
        good(x, "-x", 0, 96);
        good(x, "(-x)", 0, 96);
        good(x, "-(-x)", 0, 1);
        good(x, "2*(-3)", 91);
        good(x, "-2*3", 91);
        good(x, "-x-1", 96, 96);
        good(x, "-x^2", 0, 0, 96);
        fault(x, "--x", 1);
        fault(x, "+x", 0);
        fault(x, "(+x)", 1);
        fault(x, "x+-x", 2);
        fault(x, "x*-x", 2);
        fault(x, "x^-1", 2);
    }

    @Says(at = "Terms 1", words = "TERM: POWER { * POWER or / POWER }.")
    private static void signsWithNothingBetween(HiddenRelations x) {
        fault(x, "x**x", 2);
        fault(x, "x*/x", 2);
        fault(x, "*x", 0);
        fault(x, "/x", 0);
        fault(x, "x*)", 2);
        fault(x, "(x*)", 3);
    }

    @Says(at = "Terms 1", words = "POWER: ATOM, perhaps ^ and a NUMBER (0 .. 40).")
    private static void powersFromNoneToForty(HiddenRelations x) {
        good(x, "2^0", 1);
        good(x, "2^1", 2);
        good(x, "2^40", 36);
        int[] ways = new int[32];
        for (int k = 0; k < 32; k++) {
            ways[k] = ofForty(k);
        }
        good(x, "(1+x)^0040*(1+x)^0", ways);
    }

    /** How many ways to choose k of 40, by 97. */
    private static int ofForty(int k) {
        java.math.BigInteger ways = java.math.BigInteger.ONE;
        for (int i = 1; i <= k; i++) {
            ways = ways.multiply(java.math.BigInteger.valueOf(41 - i)).divide(java.math.BigInteger.valueOf(i));
        }
        return ways.mod(java.math.BigInteger.valueOf(97)).intValue();
    }

    @Says(at = "Terms 1", words = "one above 40 behind ^")
    private static void powersAboveForty(HiddenRelations x) {
        fault(x, "x^41", 2);
        fault(x, "x^ 0041", 3);
        fault(x, "1^9999", 2);
        fault(x, "x^40^1", 4);
        good(x, "41+9999", (41 + 9999) % 97);
    }

    @Says(at = "Terms 1", words = "POWER: ATOM, perhaps ^ and a NUMBER (0 .. 40).")
    private static void powersThatAreNoNumber(HiddenRelations x) {
        fault(x, "x^", 2);
        fault(x, "x^x", 2);
        fault(x, "x^(2)", 2);
        fault(x, "x^2^3", 3);
        fault(x, "^2", 0);
        fault(x, "x^2x", 3);
        fault(x, "x^2(x)", 3);
    }

    @Says(at = "Terms 1", words = "ATOM: x, a NUMBER, ( SUM ).")
    private static void atomsOfNothing(HiddenRelations x) {
        fault(x, "()", 1);
        fault(x, "( )", 2);
        fault(x, "(-)", 2);
        fault(x, ")", 0);
        fault(x, "x)", 1);
        fault(x, "(x))", 3);
        fault(x, "(x)(x)", 3);
        fault(x, "x(x)", 1);
    }

    @Says(at = "Terms 1", words = "a ( while 4 are open.")
    private static void parenthesesFourDeep(HiddenRelations x) {
        good(x, "((((x))))", 0, 1);
        good(x, "((((x))))*((((x))))", 0, 0, 1);
        good(x, "(x+(x+(x+(x))))", 0, 4);
        fault(x, "(((((x)))))", 4);
        fault(x, " ( ( ( ( (", 9);
        fault(x, "((((x))))+(((((x", 14);
        fault(x, "((((x(", 5);
        good(x, "((((x)^1)^1)^1)^1", 0, 1);
    }

    @Says(at = "Terms 1", words = "(the text's size, if it ends too early)")
    private static void textsThatEndTooEarly(HiddenRelations x) {
        fault(x, "", 0);
        fault(x, "-", 1);
        fault(x, "x+", 2);
        fault(x, "x*  ", 4);
        fault(x, "x^ ", 3);
        fault(x, "(", 1);
        fault(x, "(x", 2);
        fault(x, "((((x)))  ", 10);
    }

    @Says(at = "Terms 1", words = "FAULT: the place (from 0) of the first byte of the first TOKEN that can't stand there")
    private static void theFirstOfManyFaults(HiddenRelations x) {
        fault(x, ")y12345", 0);
        fault(x, "x x y 12345", 2);
        fault(x, "x+*y", 2);
        fault(x, "x^41+y", 2);
        fault(x, "x+12345+(((((", 2);
    }

    // what is worked out

    @Says(at = "Terms 1", words = "A TEXT without FAULT is worked out from the left, each part of a part ahead of it")
    private static void workedOutFromTheLeft(HiddenRelations x) {
        good(x, "9-5-3", 1);
        good(x, "9-(5-3)", 7);
        good(x, "8/4/2", 1);
        good(x, "8/(4/2)", 4);
        good(x, "8/4*2", 4);
        good(x, "2+3*4", 14);
        good(x, "2*3^2", 18);
        good(x, "(2*3)^2", 36);
    }

    @Says(at = "Terms 1", words = "A TEXT without FAULT is worked out from the left")
    private static void aFaultAheadOfEachHole(HiddenRelations x) {
        fault(x, "1/0+", 4);
        fault(x, "1/x)", 3);
        fault(x, "1/x/(1/x", 8);
        fault(x, "1/0+1/0+x^41", 10);
    }

    @Says(at = "Terms 1", words = "(anything ^ 0 is 1)")
    private static void anythingToTheNone(HiddenRelations x) {
        good(x, "0^0", 1);
        good(x, "x^0", 1);
        good(x, "97^0", 1);
        good(x, "(x-x)^0", 1);
        good(x, "1/0^0", 1);
        good(x, "1/x^0", 1);
        good(x, "(1/(1-x))^0", 1);
        good(x, "0^1", 0);
        hole(x, "(1/x)^0", 2);
    }

    @Says(at = "Terms 1", words = "HOLE is the place of the first / by which something is divided whose TERM 0 is 0.")
    private static void divisorsOfZeroAtTheFirst(HiddenRelations x) {
        hole(x, "1/0", 1);
        hole(x, "0/0", 1);
        hole(x, "1/97", 1);
        hole(x, "x/x", 1);
        hole(x, "1 / x^31", 2);
        hole(x, "1/(x^40)", 1);
        hole(x, "1/(1-98)", 1);
        hole(x, "1/(1-1/(1-x))", 1);
        good(x, "0/1", 0);
        good(x, "x/98", 0, 1);
    }

    @Says(at = "Terms 1", words = "HOLE is the place of the first / by which something is divided whose TERM 0 is 0.")
    private static void theFirstOfManyHoles(HiddenRelations x) {
        hole(x, "1/1/x/0", 3);
        hole(x, "2/x+3/x", 1);
        hole(x, "1/(1/x)", 4);
        hole(x, "1/x/(1/x)", 1);
        hole(x, "1/(2/(3/(4/(5/x))))", 13);
        hole(x, "(1/x)/(1/x)", 2);
        hole(x, "1/(x+1/x)", 6);
    }

    @Says(at = "Promise 11", words = "-100 less the FAULT; -200 less the HOLE.")
    private static void theFirstAndTheLastPlace(HiddenRelations x) {
        fault(x, "y", 0);
        fault(x, many("x+", 40), 80);
        fault(x, many("x+", 39) + "xy", 79);
        hole(x, "1/x", 1);
        hole(x, many("1+", 38) + " 1/0", 78);
    }
}
