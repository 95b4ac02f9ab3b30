/** Promises 1 and 35: what a new object is like, also beside others, and the counts. */
public final class NewObjectTest {
    public static void main(String[] args) {
        fresh();
        twoObjects();
        counts();
        Check.ending("NewObjectTest");
    }

    private static void fresh() {
        used();
        HiddenRelations x = new HiddenRelations();
        int[] want = {97, 0, 0, 0, 0, 1, 0};
        for (int what = 0; what < 7; what++) {
            Check.due("count(" + what + ")", x.count(what), want[what]);
        }
        for (int s = 0; s < 6; s++) {
            Check.terms("new", x, s);
            Check.due("lift", x.lift(s, 0), 0);
        }
        Check.due("m", x.told(0), 1);
        Check.due("order", x.told(1), 8);
        Check.due("an empty tape", x.text(0), -100);
        for (int row = 0; row < 3; row++) {
            Check.due("row", x.put(row, 0, 0), -11);
        }
        Check.due("listed", x.listed(0), -3);
        Check.due("certificate", x.certificate(0, 0), -3);
        Check.due("the first number", x.guess(0, 0, 0, 1, 9), 0);
    }

    private static HiddenRelations used() {
        HiddenRelations x = new HiddenRelations();
        x.field(7);
        x.choose(7);
        x.order(3);
        x.lift(2, 2);
        x.term(3, 3, 3);
        x.feed(2, 0);
        x.sheet(1, 1, 1);
        x.guess(0, 0, 0, 1, 9);
        x.guess(0, 0, 0, 1, 9);
        return x;
    }

    /** Rule 5 of LANGUAGE.md leaves no ledger that all objects share: each answers as if alone. */
    private static void twoObjects() {
        HiddenRelations a = used();
        HiddenRelations b = new HiddenRelations();
        Check.due("the newer's is empty", b.count(2), 0);
        Check.due("it gave no number", b.count(4), 0);
        Check.due("no such number there", b.certificate(0, 0), -3);
        Check.due("the older's stays", a.count(2), 2);
        Check.due("with what it gave", a.count(4), 2);
        Check.due("with its p", a.certificate(1, 5), 7);
        Check.due("the newer's guess", b.guess(3, 2, 1, 8, 9), 0);
        Check.due("the newer's kind", b.certificate(0, 0), 2);
        Check.due("the newer's p", b.certificate(0, 5), 97);
        Check.due("the older's kind", a.certificate(0, 0), 0);
        Check.due("the older's guess", a.guess(0, 0, 0, 1, 9), 2);
        Check.due("struck by the older", a.strike(0), 2);
        Check.due("the newer's stays", b.listed(0), 0);
        for (int i = 0; i < 7; i++) {
            Check.due("numbered on", b.guess(0, 0, 0, 1, 9), 1 + i);
        }
        Check.due("full for the newer", b.guess(0, 0, 0, 1, 9), -4);
        Check.due("not for the older", a.guess(0, 0, 0, 1, 9), 3);
        new HiddenRelations();
        Check.due("a third one empties neither", a.count(2) * 10 + b.count(2), 38);
    }

    private static void counts() {
        HiddenRelations x = new HiddenRelations();
        Check.due("count(-1)", x.count(-1), -1);
        Check.due("count(7)", x.count(7), -1);
        Check.due("count least", x.count(Integer.MIN_VALUE), -1);
        x.field(5);
        x.feed(4, 0);
        x.feed(3, 0);
        x.term(1, 31, 1);
        x.term(4, 0, 6);
        x.term(5, 0, 5);
        x.choose(52);
        x.sheet(0, 0, 0);
        x.sheet(2, 1, 40);
        x.guess(0, 0, 0, 1, 9);
        x.guess(0, 0, 0, 1, 9);
        x.guess(0, 0, 0, 1, 9);
        x.strike(1);
        int[] want = {5, 7, 2, 2, 3, 52, 18};
        for (int what = 0; what < 7; what++) {
            Check.due("count(" + what + ")", x.count(what), want[what]);
        }
    }
}
