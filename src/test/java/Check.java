/** Counts and prints the answers that are not due; each test ends by ending(). */
final class Check {
    private static int wrong = 0;
    private static int looked = 0;
    private static String test = "";

    private Check() {
    }

    /** What stands ahead of each call that is printed from now on. */
    static void in(String name) {
        test = name;
    }

    static void due(String call, long got, long want) {
        looked++;
        if (got != want) {
            wrong++;
            if (wrong <= 40) {
                System.out.println(test + call + " answered " + got + ", due is " + want);
            }
        }
    }

    static void holds(String what, boolean so) {
        due(what, so ? 1 : 0, 1);
    }

    /** What get throws: 1 IllegalArgumentException, 2 IllegalStateException, 3 IndexOutOfBoundsException, 0 nothing, 4 another. */
    static int thrown(HiddenRelations x, int row, int i) {
        try {
            x.get(row, i);
        } catch (RuntimeException e) {
            Class<?> c = e.getClass();
            return c == IllegalArgumentException.class ? 1 : c == IllegalStateException.class ? 2
                : c == IndexOutOfBoundsException.class ? 3 : 4;
        }
        return 0;
    }

    /** Feeds a text and has it read; the text's signs are bytes. */
    static int text(HiddenRelations x, String text, int series) {
        feed(x, text);
        return x.text(series);
    }

    static int feed(HiddenRelations x, String text) {
        int size = 0;
        for (int i = 0; i < text.length(); i++) {
            size = x.feed(1, text.charAt(i));
        }
        return size;
    }

    /** The terms of a series from x^0 on, and that all behind them are 0. */
    static void terms(String what, HiddenRelations x, int series, int... want) {
        for (int k = 0; k < 32; k++) {
            due(what + ": at(" + series + ", " + k + ")", x.at(series, k), k < want.length ? want[k] : 0);
        }
    }

    static void ending(String test) {
        System.out.println(test + ": " + looked + " looked at, " + wrong + " wrong");
        if (wrong != 0) {
            System.exit(1);
        }
    }
}
