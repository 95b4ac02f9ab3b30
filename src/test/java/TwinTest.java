import java.util.Random;

/**
 * Long runs of calls on the program and on its twin, each answer compared; at the end of a run all
 * that calls can see of the two. So what refused calls change is seen too. A run goes beyond the
 * 512 calls that the document promises, as the program has no such end.
 */
public final class TwinTest {
    private static final int CALLS = 34;
    private static final String[] WORDS = {"x", "1", "2", "+", "-", "*", "/", "^", "(", ")", " ", "40", "3", "12345", "y",
        "(1-x)", "(1-x-x^2)", "/(1-x)", "*(2+3*x)", "^2", "(x+", "1/(", "))", "\u0000", "\u00e9", "0", "x^"};

    private final Random random;
    private final int[] primes = {2, 3, 5, 7, 97, 101, 991, 997};
    private HiddenRelations x;
    private Twin twin;
    private HiddenRelations resting;
    private Twin restingTwin;

    private TwinTest(long seed) {
        random = new Random(seed);
    }

    public static void main(String[] args) {
        int runs = args.length > 0 ? Integer.parseInt(args[0]) : 150;
        long first = args.length > 1 ? Long.parseLong(args[1]) : 1;
        for (long seed = first; seed < first + runs; seed++) {
            new TwinTest(seed).run();
        }
        Check.ending("TwinTest");
    }

    private void run() {
        x = new HiddenRelations();
        twin = new Twin();
        resting = new HiddenRelations();
        restingTwin = new Twin();
        int wild = random.nextInt(4) == 0 ? 4 : 25;
        for (int call = 0; call < 600; call++) {
            if (random.nextInt(40) == 0) {
                takeTheOther();
            }
            one(random.nextInt(CALLS), wild);
        }
        everything();
        takeTheOther();
        everything();
    }

    /** Two objects live at once, and what one is called must not change what the other answers. */
    private void takeTheOther() {
        HiddenRelations called = x;
        Twin calledTwin = twin;
        x = resting;
        twin = restingTwin;
        resting = called;
        restingTwin = calledTwin;
    }

    /** A number mostly from low to high, now and then any other. */
    private int from(int low, int high, int wild) {
        if (random.nextInt(wild) != 0) {
            return low + random.nextInt(high - low + 1);
        }
        int[] odd = {low - 1, high + 1, -1, Integer.MIN_VALUE, Integer.MAX_VALUE, random.nextInt(), high + 2, 0};
        return odd[random.nextInt(odd.length)];
    }

    private void due(String call, int got, int want) {
        Check.due(call, got, want);
    }

    private void one(int which, int wild) {
        int s = from(0, 5, wild);
        int t = from(0, 5, wild);
        int u = from(0, 5, wild);
        int k = from(0, 31, wild);
        int v = random.nextBoolean() ? random.nextInt() : random.nextInt(7) - 3;
        int row = from(0, 2, wild);
        int other = from(0, 2, wild);
        int number = from(0, Math.max(0, twin.count(4)), wild);
        int m = twin.told(0);
        switch (which) {
            case 0:
                if (random.nextInt(12) == 0) {
                    int p = random.nextBoolean() ? primes[random.nextInt(8)] : from(2, 997, wild);
                    due("field " + p, x.field(p), twin.field(p));
                }
                break;
            case 1: due("term", x.term(s, k, v), twin.term(s, k, v)); break;
            case 2: due("at", x.at(s, k), twin.at(s, k)); break;
            case 3: due("mix", x.mix(s, v, t, k, u), twin.mix(s, v, t, k, u)); break;
            case 4: due("times", x.times(s, t, u), twin.times(s, t, u)); break;
            case 5: due("inverse", x.inverse(s, t), twin.inverse(s, t)); break;
            case 6: due("weigh", x.weigh(s, t), twin.weigh(s, t)); break;
            case 7: k = from(0, 4, wild); due("shift", x.shift(s, k, t), twin.shift(s, k, t)); break;
            case 8: k = from(1, 4, wild); due("feed", x.feed(k, v), twin.feed(k, v)); break;
            case 9: case 10: written(s); break;
            case 11: due("zeros", x.zeros(s), twin.zeros(s)); break;
            case 12: k = from(1, 63, wild); due("choose", x.choose(k), twin.choose(k)); break;
            case 13: k = from(0, 9, wild); due("lift", x.lift(s, k), twin.lift(s, k)); break;
            case 14: k = from(1, 32, wild); due("order", x.order(k), twin.order(k)); break;
            case 15: k = from(0, 5, wild); due("told", x.told(k), twin.told(k)); break;
            case 16: s = from(0, m - 1, wild); k = from(0, 2, wild); due("row", x.row(s, k), twin.row(s, k)); break;
            case 17: case 18:
                s = from(0, m - 1, wild);
                t = from(0, m - 1, wild);
                k = from(0, random.nextBoolean() ? 32 : 8, wild);
                due("entry", x.entry(s, t, k), twin.entry(s, t, k));
                break;
            case 19: s = from(0, m - 1, wild); due("rest", x.rest(s, k), twin.rest(s, k)); break;
            case 20: s = from(0, m - 1, wild); due("comes", x.comes(s, t), twin.comes(s, t)); break;
            case 21: due("relates", x.relates(row), twin.relates(row)); break;
            case 22: case 23: guessed(s, wild); break;
            case 24: k = from(0, 5, wild); due("certificate", x.certificate(number, k), twin.certificate(number, k)); break;
            case 25:
                t = from(0, 3, wild);
                k = from(0, 9, wild);
                due("proof", x.proof(number, t, k), twin.proof(number, t, k));
                break;
            case 26: due("test", x.test(number, s), twin.test(number, s)); break;
            case 27: due("toldOn", x.toldOn(number, s), twin.toldOn(number, s)); break;
            case 28: due("strike", x.strike(number), twin.strike(number)); break;
            case 29: k = from(0, 7, wild); due("listed", x.listed(k), twin.listed(k)); break;
            default: onRows(which, row, other, s, wild, v);
        }
    }

    private void written(int s) {
        int words = random.nextInt(9);
        for (int w = 0; w < words; w++) {
            String word = WORDS[random.nextInt(WORDS.length)];
            for (int i = 0; i < word.length(); i++) {
                due("feed", x.feed(1, word.charAt(i)), twin.feed(1, word.charAt(i)));
            }
        }
        due("text", x.text(s), twin.text(s));
    }

    private void guessed(int s, int wild) {
        int kind = from(0, 2, wild);
        int r = from(1, 3, wild);
        int used = from(1, 32, wild);
        int high = from(0, 9, wild);
        due("guess", x.guess(s, kind, r, used, high), twin.guess(s, kind, r, used, high));
    }

    private void onRows(int which, int row, int other, int s, int wild, int v) {
        int i = from(0, 12, wild);
        int j = from(0, 12, wild);
        int n = from(0, 40, wild);
        int few = from(0, 9, wild);
        int sort = from(0, 1, wild);
        switch (which) {
            case 30: due("sheet", x.sheet(row, sort, n), twin.sheet(row, sort, n)); break;
            case 31:
                due("put", x.put(row, i, v), twin.put(row, i, v));
                got(row, j);
                break;
            case 32: due("move", x.move(row, i, other, j, few), twin.move(row, i, other, j, few)); break;
            default:
                if (random.nextBoolean()) {
                    due("loads", x.loads(s, row), twin.loads(s, row));
                } else {
                    due("spills", x.spills(s, row), twin.spills(s, row));
                }
        }
    }

    private static int kindOf(RuntimeException e) {
        return e.getClass() == IllegalArgumentException.class ? 1 : e.getClass() == IllegalStateException.class ? 2
            : e.getClass() == IndexOutOfBoundsException.class ? 3 : 4;
    }

    private void got(int row, int i) {
        int thrown = 0;
        int thrownThere = 0;
        int v = 0;
        int there = 0;
        try {
            v = x.get(row, i);
        } catch (RuntimeException e) {
            thrown = kindOf(e);
        }
        try {
            there = twin.get(row, i);
        } catch (RuntimeException e) {
            thrownThere = kindOf(e);
        }
        due("get throws", thrown, thrownThere);
        due("get", v, there);
    }

    private void everything() {
        for (int what = -1; what <= 7; what++) {
            due("count", x.count(what), twin.count(what));
            due("told", x.told(what), twin.told(what));
        }
        for (int s = 0; s < 6; s++) {
            for (int k = 0; k < 32; k++) {
                due("at", x.at(s, k), twin.at(s, k));
            }
            due("lift", x.lift(s, 0), twin.lift(s, 0));
        }
        for (int row = 0; row < 3; row++) {
            for (int i = 0; i <= 40; i++) {
                got(row, i);
            }
        }
        int m = twin.told(0);
        for (int i = 0; i < m; i++) {
            for (int k = 0; k < 32; k += 3) {
                due("rest", x.rest(i, k), twin.rest(i, k));
            }
            for (int j = 0; j < m; j++) {
                for (int k = 0; k <= 32; k += 2) {
                    due("entry", x.entry(i, j, k), twin.entry(i, j, k));
                }
            }
        }
        for (int i = 0; i <= 8; i++) {
            due("listed", x.listed(i), twin.listed(i));
            int number = twin.listed(i);
            for (int what = 0; what < 6; what++) {
                due("certificate", x.certificate(number, what), twin.certificate(number, what));
            }
            for (int j = 0; j < 4; j++) {
                for (int k = 0; k < 10; k++) {
                    due("proof", x.proof(number, j, k), twin.proof(number, j, k));
                }
            }
        }
    }
}
