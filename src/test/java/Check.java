/** Counts and prints the answers that are not due; each test ends by ending(). */
final class Check {
    private static int wrong = 0;
    private static int looked = 0;

    private Check() {
    }

    static void due(String call, long got, long want) {
        looked++;
        if (got != want) {
            wrong++;
            if (wrong <= 40) {
                System.out.println(call + " answered " + got + ", due is " + want);
            }
        }
    }

    static void holds(String what, boolean so) {
        due(what, so ? 1 : 0, 1);
    }

    /** Feeds a text and has it read; the text's signs are bytes. */
    static int text(HiddenRelations x, String text, int series) {
        feed(x, text);
        return x.text(series);
    }

    static int feed(HiddenRelations x, String text) {
        int size = 0;
        for (int i = 0; i < text.length(); i++) {
            size = x.feed(1, text.charAt(i));
        }
        return size;
    }

    /** The terms of a series from x^0 on, and that all behind them are 0. */
    static void terms(String what, HiddenRelations x, int series, int... want) {
        for (int k = 0; k < 32; k++) {
            due(what + ": at(" + series + ", " + k + ")", x.at(series, k), k < want.length ? want[k] : 0);
        }
    }

    static void ending(String test) {
        System.out.println(test + ": " + looked + " looked at, " + wrong + " wrong");
        if (wrong != 0) {
            System.exit(1);
        }
    }
}
