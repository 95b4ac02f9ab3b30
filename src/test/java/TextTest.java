/** Promises 10 and 11: the tape and texts. */
public final class TextTest {
    public static void main(String[] args) {
        feed();
        worked();
        faults();
        holes();
        state();
        Check.ending("TextTest");
    }

    private static void feed() {
        HiddenRelations x = new HiddenRelations();
        Check.due("feed(0)", x.feed(0, 1), -1);
        Check.due("feed(5)", x.feed(5, 1), -1);
        Check.due("feed(-1)", x.feed(-1, 1), -1);
        Check.due("feed least", x.feed(Integer.MIN_VALUE, 1), -1);
        Check.due("lowest first", x.feed(3, 'x' | '+' << 8 | '7' << 16 | 'q' << 24), 3);
        Check.due("text", x.text(0), 1);
        Check.terms("x+7", x, 0, 7, 1);
        for (int i = 1; i <= 19; i++) {
            Check.due("feed", x.feed(4, 0x20202020), 4 * i);
        }
        Check.due("feed 3 more", x.feed(3, 0x20202020), 79);
        Check.due("no room for 2", x.feed(2, 0x20202020), -4);
        Check.due("bad ahead of full", x.feed(5, 0x20202020), -1);
        Check.due("room for 1", x.feed(1, '4'), 80);
        Check.due("no room", x.feed(1, '4'), -4);
        Check.due("80 bytes", x.text(0), 1);
        Check.terms("the last byte", x, 0, 4);
        Check.due("the highest byte", x.feed(4, '5' << 24 | 0x202020), 4);
        Check.due("the highest byte read", x.text(0), 1);
        Check.terms("the highest byte", x, 0, 5);
    }

    private static void good(String text, int... want) {
        HiddenRelations x = new HiddenRelations();
        x.field(101);
        for (int k = 0; k < 32; k++) {
            x.term(2, k, 9);
        }
        Check.due(text, Check.text(x, text, 2), 1);
        Check.terms(text, x, 2, want);
        Check.due("tape behind " + text, x.count(1), 0);
    }

    private static void worked() {
        good("x", 0, 1);
        good("0");
        good("9999", 0);
        good("0007", 7);
        good("1234", 1234 % 101);
        good("-x", 0, 100);
        good("-x^2+x*3-4", 97, 3, 100);
        good("2-3-4", 96);
        good("2-(3-4)", 3);
        good("-2*3", 95);
        good("-(x-1)^2", 100, 2, 100);
        good("12/2/3", 2);
        good("12/(2*3)", 2);
        good("12/2*3", 18);
        good("2*x^3", 0, 0, 0, 2);
        good("(2*x)^3", 0, 0, 0, 8);
        good("x^0", 1);
        good("0^0", 1);
        good("(x-x)^0", 1);
        good("x^31", at(31));
        good("x^32");
        good("x^40");
        good("2^40", java.math.BigInteger.TWO.pow(40).mod(java.math.BigInteger.valueOf(101)).intValue());
        good("x^0002", 0, 0, 1);
        good("  ( x + 1 )  ^  2  ", 1, 2, 1);
        good("((((x))))", 0, 1);
        good("((((x))))+((((1))))", 1, 1);
        good("(1-x^2)/(1-x)", 1, 1);
        good("(-x)", 0, 100);
        good("x*(-1)", 0, 100);
        good("(1+x)*(1-x)-1", 0, 0, 100);
        good("1/x^0", 1);
        int[] ones = new int[32];
        java.util.Arrays.fill(ones, 1);
        good("1/(1-x)", ones);
        good("1/(1-x)/(1-x)*(1-x)", ones);
    }

    private static int[] at(int k) {
        int[] row = new int[32];
        row[k] = 1;
        return row;
    }

    private static void fault(String text, int place) {
        HiddenRelations x = new HiddenRelations();
        x.term(1, 4, 8);
        Check.due(text, Check.text(x, text, 1), -100 - place);
        Check.terms("unchanged behind " + text, x, 1, 0, 0, 0, 0, 8);
        Check.due("tape behind " + text, x.count(1), 0);
    }

    private static void faults() {
        fault("", 0);
        fault("   ", 3);
        fault("+x", 0);
        fault("--x", 1);
        fault("x--x", 2);
        fault("x+-x", 2);
        fault("x*-x", 2);
        fault("x+", 2);
        fault("x+  ", 4);
        fault("x*", 2);
        fault("x^", 2);
        fault("x^x", 2);
        fault("x^-1", 2);
        fault("x^(2)", 2);
        fault("x^41", 2);
        fault("x^ 99+)", 3);
        fault("x^40^2", 4);
        fault("x^2 2", 4);
        fault("x x", 2);
        fault("2x", 1);
        fault("2 (x)", 2);
        fault("(x)(x)", 3);
        fault("x)", 1);
        fault("(x))", 3);
        fault("()", 1);
        fault("(", 1);
        fault("(x", 2);
        fault("(x ", 3);
        fault("(((((1)))))", 4);
        fault("((((1))))+(((((1)))))", 14);
        fault("12345", 0);
        fault("x+ 00001", 3);
        fault("x 12345", 2);
        fault("x^00001", 2);
        fault("X", 0);
        fault("y", 0);
        fault("x+\u0000", 2);
        fault("x\t", 1);
        fault("x+\u00ff", 2);
        fault("x.", 1);
        fault("-", 1);
        fault("1/x+", 4);
        fault("1/x)", 3);
        fault("1/x+y+12345", 4);
        String wide = "x+x+x+x+x+x+x+x+x+x+x+x+x+x+x+x+x+x+x+x+x+x+x+x+x+x+x+x+x+x+x+x+x+x+x+x+x+x+x+x+";
        fault(wide, 80);
    }

    private static void hole(String text, int place) {
        HiddenRelations x = new HiddenRelations();
        x.term(1, 4, 8);
        Check.due(text, Check.text(x, text, 1), -200 - place);
        Check.terms("unchanged behind " + text, x, 1, 0, 0, 0, 0, 8);
        Check.due("tape behind " + text, x.count(1), 0);
    }

    private static void holes() {
        hole("1/x", 1);
        hole("1/0", 1);
        hole("1/97", 1);
        hole(" 1 / x", 3);
        hole("1/(1/x)", 4);
        hole("1/x/(1/x)", 1);
        hole("1/x*(1/x)", 1);
        hole("2+1/x+1/x", 3);
        hole("(1/x)/x", 2);
        hole("(1/x)^0", 2);
        hole("1/(1-1)^1", 1);
        hole("x/x", 1);
        hole("0/x", 1);
        hole("1/(x+(1/(x-x)))/0", 7);
        hole("1/2/x", 3);
        hole("1/(2/(3/(4/x)))", 10);
        hole("((((8/x))))", 5);
    }

    private static void state() {
        HiddenRelations x = new HiddenRelations();
        Check.feed(x, "x+1");
        Check.due("text(-1)", x.text(-1), -1);
        Check.due("text(6)", x.text(6), -1);
        Check.due("the tape stays", x.count(1), 3);
        Check.due("text(5)", x.text(5), 1);
        Check.terms("text(5)", x, 5, 1, 1);
        Check.due("an empty text", x.text(5), -100);
        Check.terms("stays", x, 5, 1, 1);
    }
}
