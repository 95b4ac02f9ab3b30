/** Promises 1 and 35: what a new object is like, the one ledger of all objects, and the counts. */
public final class NewObjectTest {
    public static void main(String[] args) {
        fresh();
        oneLedger();
        counts();
        Check.ending("NewObjectTest");
    }

    private static void fresh() {
        used();
        HiddenRelations x = new HiddenRelations();
        int[] want = {97, 0, 0, 0, 0, 1, 0};
        for (int what = 0; what < 7; what++) {
            Check.due("count(" + what + ")", x.count(what), want[what]);
        }
        for (int s = 0; s < 6; s++) {
            Check.terms("new", x, s);
            Check.due("lift", x.lift(s, 0), 0);
        }
        Check.due("m", x.told(0), 1);
        Check.due("order", x.told(1), 8);
        Check.due("an empty tape", x.text(0), -100);
        for (int row = 0; row < 3; row++) {
            Check.due("row", x.put(row, 0, 0), -11);
        }
        Check.due("listed", x.listed(0), -3);
        Check.due("certificate", x.certificate(0, 0), -3);
        Check.due("the first number", x.guess(0, 0, 0, 1, 9), 0);
    }

    private static HiddenRelations used() {
        HiddenRelations x = new HiddenRelations();
        x.field(7);
        x.choose(7);
        x.order(3);
        x.lift(2, 2);
        x.term(3, 3, 3);
        x.feed(2, 0);
        x.sheet(1, 1, 1);
        x.guess(0, 0, 0, 1, 9);
        x.guess(0, 0, 0, 1, 9);
        return x;
    }

    private static void oneLedger() {
        HiddenRelations a = used();
        Check.due("two", a.count(2), 2);
        HiddenRelations b = new HiddenRelations();
        Check.due("emptied for the older object", a.count(2), 0);
        Check.due("numbers begin anew for it", a.count(4), 0);
        Check.due("its other state stays", a.count(0), 7);
        Check.due("no such number", a.certificate(0, 0), -3);
        Check.due("the older object's guess", a.guess(3, 2, 1, 8, 9), 0);
        Check.due("seen by the newer", b.certificate(0, 0), 2);
        Check.due("with its p", b.certificate(0, 5), 7);
        Check.due("which is not that of the newer", b.test(0, 0), -2);
        Check.due("the newer's guess", b.guess(0, 0, 0, 1, 9), 1);
        Check.due("seen by the older", a.listed(1), 1);
        Check.due("also its p", a.certificate(1, 5), 97);
        Check.due("struck by the older", a.strike(1), 1);
        Check.due("gone for the newer", b.listed(1), -3);
        Check.due("given in all", b.count(4), 2);
        for (int i = 0; i < 7; i++) {
            Check.due("numbered on", (i % 2 == 0 ? a : b).guess(0, 0, 0, 1, 9), 2 + i);
        }
        Check.due("full for the older", a.guess(0, 0, 0, 1, 9), -4);
        Check.due("full for the newer", b.guess(0, 0, 0, 1, 9), -4);
        new HiddenRelations();
        Check.due("empty for the oldest", a.listed(0), -3);
        Check.due("numbers at 0 again", b.guess(0, 0, 0, 1, 9), 0);
    }

    private static void counts() {
        HiddenRelations x = new HiddenRelations();
        Check.due("count(-1)", x.count(-1), -1);
        Check.due("count(7)", x.count(7), -1);
        Check.due("count least", x.count(Integer.MIN_VALUE), -1);
        x.field(5);
        x.feed(4, 0);
        x.feed(3, 0);
        x.term(1, 31, 1);
        x.term(4, 0, 6);
        x.term(5, 0, 5);
        x.choose(52);
        x.sheet(0, 0, 0);
        x.sheet(2, 1, 40);
        x.guess(0, 0, 0, 1, 9);
        x.guess(0, 0, 0, 1, 9);
        x.guess(0, 0, 0, 1, 9);
        x.strike(1);
        int[] want = {5, 7, 2, 2, 3, 52, 18};
        for (int what = 0; what < 7; what++) {
            Check.due("count(" + what + ")", x.count(what), want[what]);
        }
    }
}
