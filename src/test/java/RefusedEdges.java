/** That refused calls change nothing, each on an object that has something of all. */
final class RefusedEdges {
    private static final String NOTHING = "they change nothing";

    private RefusedEdges() {
    }

    private interface Call {
        int of(HiddenRelations x);
    }

    /** Certificates 0 and 2 stand, 1 is struck; row 2 is missing; series 4 is 0 at x^0, series 3 is 0. */
    private static HiddenRelations something() {
        HiddenRelations x = new HiddenRelations();
        Check.text(x, "1/(1-x-x^2)", 0);
        Check.text(x, "5-x", 1);
        Check.text(x, "7+x^31", 2);
        Check.text(x, "x+3*x^5", 4);
        x.weigh(0, 5);
        x.guess(0, 0, 0, 8, 9);
        x.guess(1, 0, 0, 8, 9);
        x.guess(1, 2, 1, 8, 9);
        x.strike(1);
        x.choose(34);
        x.lift(1, 2);
        x.lift(5, 1);
        x.order(5);
        x.sheet(0, 1, 3);
        x.put(0, 1, 500);
        x.put(0, 2, -3);
        x.sheet(1, 0, 2);
        x.put(1, 0, 77);
        Check.feed(x, "x+4");
        return x;
    }

    /** All that calls can tell, the tape at the end; this ends the object's use. */
    private static String seen(HiddenRelations x) {
        StringBuilder seen = new StringBuilder();
        for (int what = 0; what < 7; what++) {
            seen.append(x.count(what)).append(' ').append(x.told(what)).append(' ');
        }
        for (int s = 0; s < 6; s++) {
            for (int k = 0; k < 32; k += k < 6 ? 1 : 5) {
                seen.append(x.at(s, k)).append(' ');
            }
        }
        for (int i = 0; i < x.told(0); i++) {
            for (int k = 0; k < 6; k++) {
                seen.append(x.entry(i, 0, k)).append(' ').append(x.entry(i, 1, k)).append(' ').append(x.rest(i, k)).append(' ');
            }
        }
        for (int i = 0; i < 9; i++) {
            int number = x.listed(i);
            seen.append("#").append(number).append(' ');
            for (int what = 0; what < 6; what++) {
                seen.append(x.certificate(number, what)).append(' ').append(x.proof(number, what & 1, what >> 1)).append(' ');
            }
        }
        for (int row = 0; row < 3; row++) {
            for (int i = 0; i < 4; i++) {
                int thrown = Check.thrown(x, row, i);
                seen.append(thrown == 0 ? "=" + x.get(row, i) : "!" + thrown).append(' ');
            }
        }
        for (int s = 0; s < 6; s++) {
            seen.append(x.lift(s, 0)).append(' ');
        }
        seen.append(x.text(3)).append(' ').append(x.at(3, 0)).append(' ').append(x.at(3, 1));
        return seen.toString();
    }

    private static void refused(String name, int want, Call call) {
        HiddenRelations x = something();
        Check.due(name, call.of(x), want);
        Check.holds(name + " changes nothing", seen(x).equals(seen(something())));
    }

    @Says(at = "Terms 4", words = NOTHING)
    private static void ofSeries(HiddenRelations unused) {
        refused("field too small", -1, x -> x.field(1));
        refused("field of no prime", -1, x -> x.field(99));
        refused("field too large", -1, x -> x.field(1009));
        refused("term of no series", -1, x -> x.term(6, 0, 1));
        refused("term of no power", -1, x -> x.term(0, 32, 1));
        refused("at", -1, x -> x.at(0, 32));
        refused("mix of one", -1, x -> x.mix(6, 1, 0, 1, 0));
        refused("mix of another", -1, x -> x.mix(0, 1, 6, 1, 0));
        refused("mix to none", -1, x -> x.mix(0, 1, 1, 1, 6));
        refused("times of one", -1, x -> x.times(6, 0, 0));
        refused("times of another", -1, x -> x.times(0, 6, 0));
        refused("times to none", -1, x -> x.times(0, 0, 6));
        refused("inverse of none", -1, x -> x.inverse(6, 0));
        refused("inverse to none", -1, x -> x.inverse(0, 6));
        refused("inverse of what has none", -2, x -> x.inverse(4, 0));
        refused("weigh of none", -1, x -> x.weigh(6, 0));
        refused("weigh to none", -1, x -> x.weigh(0, 6));
        refused("shift of none", -1, x -> x.shift(6, 1, 0));
        refused("shift by none", -1, x -> x.shift(0, 32, 0));
        refused("shift to none", -1, x -> x.shift(0, 1, 6));
        refused("zeros", -1, x -> x.zeros(6));
    }

    @Says(at = "Terms 4", words = NOTHING)
    private static void ofTheTape(HiddenRelations unused) {
        refused("feed of none", -1, x -> x.feed(0, -1));
        refused("feed of five", -1, x -> x.feed(5, -1));
        refused("text to none", -1, x -> x.text(6));
        HiddenRelations x = something();
        HiddenRelations y = something();
        for (int i = 0; i < 19; i++) {
            x.feed(4, 0x20202020);
            y.feed(4, 0x20202020);
        }
        Check.due("no room", x.feed(2, 0x3535), -4);
        Check.holds("FULL changes nothing", seen(x).equals(seen(y)));
    }

    /** What a text with a fault or a hole changes is that the tape is empty. */
    @Says(at = "Terms 4", words = NOTHING)
    private static void ofTexts(HiddenRelations unused) {
        HiddenRelations x = something();
        HiddenRelations y = something();
        Check.due("a fault", Check.text(x, "+", 0), -104);
        Check.due("a hole", Check.text(x, "3/x", 0), -201);
        y.text(3);
        y.mix(3, 0, 3, 0, 3);
        Check.holds("a fault and a hole change nothing else", seen(x).equals(seen(y)));
    }

    @Says(at = "Terms 4", words = NOTHING)
    private static void ofTheChoice(HiddenRelations unused) {
        refused("choose none", -1, x -> x.choose(0));
        refused("choose five", -1, x -> x.choose(31));
        refused("choose what is no series", -1, x -> x.choose(65));
        refused("lift of none", -1, x -> x.lift(6, 1));
        refused("lift by none", -1, x -> x.lift(1, 10));
        refused("order too small", -1, x -> x.order(0));
        refused("order too large", -1, x -> x.order(33));
        refused("told", -1, x -> x.told(6));
        refused("row of none", -1, x -> x.row(2, 0));
        refused("row of nothing", -1, x -> x.row(0, 3));
        refused("entry of none", -1, x -> x.entry(2, 0, 0));
        refused("entry in none", -1, x -> x.entry(0, 2, 0));
        refused("entry of no power", -1, x -> x.entry(0, 0, 33));
        refused("rest of none", -1, x -> x.rest(2, 0));
        refused("rest of no power", -1, x -> x.rest(0, 32));
        refused("comes of none", -1, x -> x.comes(2, 0));
        refused("comes to none", -1, x -> x.comes(0, 6));
        refused("relates of none", -1, x -> x.relates(3));
        refused("relates of a missing row", -11, x -> x.relates(2));
    }

    @Says(at = "Terms 4", words = NOTHING)
    private static void ofGuesses(HiddenRelations unused) {
        refused("guess for none", -1, x -> x.guess(6, 0, 1, 4, 4));
        refused("guess of no kind", -1, x -> x.guess(0, 3, 1, 4, 4));
        refused("guess of no r", -1, x -> x.guess(0, 1, 4, 4, 4));
        refused("guess of no used", -1, x -> x.guess(0, 0, 1, 33, 4));
        refused("guess of no height", -1, x -> x.guess(0, 0, 1, 4, 10));
        refused("guess of what is none", -3, x -> x.guess(0, 0, 1, 32, 1));
        HiddenRelations x = something();
        HiddenRelations y = something();
        for (int i = 0; i < 6; i++) {
            x.guess(4, 0, 0, 1, 9);
            y.guess(4, 0, 0, 1, 9);
        }
        Check.due("full", x.guess(0, 1, 3, 4, 9), -4);
        Check.holds("FULL changes nothing", seen(x).equals(seen(y)));
    }

    @Says(at = "Terms 4", words = NOTHING)
    private static void ofCertificates(HiddenRelations unused) {
        refused("certificate of nothing", -1, x -> x.certificate(0, 6));
        refused("certificate of none", -3, x -> x.certificate(1, 0));
        refused("proof of none", -3, x -> x.proof(1, 0, 0));
        refused("proof in none", -1, x -> x.proof(0, 2, 0));
        refused("proof of no power", -1, x -> x.proof(0, 0, 10));
        refused("test for none", -1, x -> x.test(0, 6));
        refused("test of none", -3, x -> x.test(1, 0));
        refused("told on to none", -1, x -> x.toldOn(0, 6));
        refused("told on by none", -3, x -> x.toldOn(1, 1));
        refused("told on by another kind", -2, x -> x.toldOn(2, 1));
        refused("strike of none", -3, x -> x.strike(1));
        refused("listed", -3, x -> x.listed(2));
        HiddenRelations x = something();
        HiddenRelations y = something();
        x.field(89);
        y.field(89);
        x.term(1, 1, 1);
        y.term(1, 1, 1);
        Check.due("test in another field", x.test(0, 1), -2);
        Check.due("told on in another field", x.toldOn(0, 1), -2);
        Check.holds("NOT changes nothing", seen(x).equals(seen(y)));
    }

    @Says(at = "Terms 4", words = NOTHING)
    private static void ofRows(HiddenRelations unused) {
        refused("sheet of no row", -1, x -> x.sheet(3, 0, 1));
        refused("sheet of no sort", -1, x -> x.sheet(0, 2, 1));
        refused("sheet too large", -1, x -> x.sheet(0, 1, 41));
        refused("sheet too small", -14, x -> x.sheet(0, 1, -1));
        refused("put in no row", -1, x -> x.put(3, 0, 1));
        refused("put in a missing row", -11, x -> x.put(2, 0, 1));
        refused("put in no place", -12, x -> x.put(0, 3, 1));
        refused("get from no row", 1, x -> Check.thrown(x, 3, 0));
        refused("get from a missing row", 2, x -> Check.thrown(x, 2, 0));
        refused("get from no place", 3, x -> Check.thrown(x, 0, 3));
        refused("move from no row", -1, x -> x.move(3, 0, 0, 0, 1));
        refused("move to no row", -1, x -> x.move(0, 0, 3, 0, 1));
        refused("move from a missing row", -11, x -> x.move(2, 0, 0, 0, 1));
        refused("move to a missing row", -11, x -> x.move(0, 0, 2, 0, 1));
        refused("move of two sorts", -13, x -> x.move(0, 1, 1, 0, 1));
        refused("move from no place", -12, x -> x.move(0, 2, 0, 0, 2));
        refused("move to no place", -12, x -> x.move(0, 1, 0, 2, 2));
        refused("move of fewer than none", -12, x -> x.move(0, 1, 0, 0, -1));
        refused("loads to none", -1, x -> x.loads(6, 0));
        refused("loads of no row", -1, x -> x.loads(0, 3));
        refused("loads of a missing row", -11, x -> x.loads(0, 2));
        refused("spills of none", -1, x -> x.spills(6, 0));
        refused("spills to no row", -1, x -> x.spills(0, 3));
        refused("spills to a missing row", -11, x -> x.spills(0, 2));
        refused("count", -1, x -> x.count(7));
    }
}
