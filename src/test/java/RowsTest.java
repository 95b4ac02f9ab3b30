/** Promises 29 to 34: rows. */
public final class RowsTest {
    public static void main(String[] args) {
        sheet();
        putAndGet();
        move();
        loads();
        spills();
        Check.ending("RowsTest");
    }

    private static void sheet() {
        HiddenRelations x = new HiddenRelations();
        int[][] bad = {{-1, 0, 1}, {3, 0, 1}, {0, -1, 1}, {0, 2, 1}, {0, 0, 41}, {0, 1, Integer.MAX_VALUE},
            {3, 0, -1}, {0, 2, -1}};
        for (int[] b : bad) {
            Check.due("sheet bad", x.sheet(b[0], b[1], b[2]), -1);
        }
        Check.due("below 0", x.sheet(0, 0, -1), -14);
        Check.due("least", x.sheet(0, 1, Integer.MIN_VALUE), -14);
        Check.due("all are missing", x.count(3), 0);
        Check.due("40", x.sheet(0, 0, 40), 1);
        Check.due("0", x.sheet(1, 1, 0), 1);
        Check.due("two", x.count(3), 2);
        for (int i = 0; i < 40; i++) {
            Check.due("0", x.get(0, i), 0);
            x.put(0, i, i);
        }
        Check.due("no place", Check.thrown(x, 0, 40), 3);
        Check.due("no place in none", Check.thrown(x, 1, 0), 3);
        Check.due("a refused one", x.sheet(0, 0, -1), -14);
        Check.due("changes nothing", x.get(0, 39), 39);
        Check.due("anew", x.sheet(0, 1, 2), 1);
        Check.due("anew all 0", x.get(0, 1), 0);
        Check.due("of 2", Check.thrown(x, 0, 2), 3);
        Check.due("greater again", x.sheet(0, 1, 40), 1);
        Check.due("all 0", x.get(0, 39), 0);
        Check.due("two still", x.count(3), 2);
    }

    private static void putAndGet() {
        HiddenRelations x = new HiddenRelations();
        x.sheet(0, 0, 3);
        x.sheet(1, 1, 3);
        int[] values = {0, 1, -1, 127, 128, 255, 256, 300, -129, Integer.MIN_VALUE, Integer.MAX_VALUE};
        for (int v : values) {
            Check.due("put bytes", x.put(0, 2, v), 1);
            Check.due("get bytes", x.get(0, 2), (byte) v);
            Check.due("put ints", x.put(1, 0, v), 1);
            Check.due("get ints", x.get(1, 0), v);
        }
        Check.due("its neighbour", x.get(1, 1), 0);
        int[] rows = {-1, 3, Integer.MIN_VALUE, Integer.MAX_VALUE};
        for (int row : rows) {
            Check.due("put bad", x.put(row, 0, 1), -1);
            Check.due("put bad ahead of the place", x.put(row, 99, 1), -1);
            Check.due("get bad", Check.thrown(x, row, 0), 1);
            Check.due("get bad ahead of the place", Check.thrown(x, row, -1), 1);
        }
        Check.due("put missing", x.put(2, 0, 1), -11);
        Check.due("put missing ahead of the place", x.put(2, 99, 1), -11);
        Check.due("get missing", Check.thrown(x, 2, 0), 2);
        Check.due("get missing ahead of the place", Check.thrown(x, 2, -1), 2);
        int[] places = {-1, 3, 40, Integer.MIN_VALUE, Integer.MAX_VALUE};
        for (int i : places) {
            Check.due("put no place", x.put(0, i, 1), -12);
            Check.due("get no place", Check.thrown(x, 0, i), 3);
        }
        Check.due("get a place", Check.thrown(x, 0, 2), 0);
    }

    private static HiddenRelations filled() {
        HiddenRelations x = new HiddenRelations();
        x.sheet(0, 1, 10);
        x.sheet(1, 1, 4);
        for (int i = 0; i < 10; i++) {
            x.put(0, i, 100 + i);
        }
        return x;
    }

    private static void row(HiddenRelations x, int row, int... want) {
        for (int i = 0; i < want.length; i++) {
            Check.due("get(" + row + ", " + i + ")", x.get(row, i), want[i]);
        }
    }

    private static void move() {
        HiddenRelations x = filled();
        Check.due("move", x.move(0, 7, 1, 1, 3), 3);
        row(x, 1, 0, 107, 108, 109);
        Check.due("onto itself, up", x.move(0, 0, 0, 2, 8), 8);
        row(x, 0, 100, 101, 100, 101, 102, 103, 104, 105, 106, 107);
        Check.due("onto itself, down", x.move(0, 4, 0, 3, 6), 6);
        row(x, 0, 100, 101, 100, 102, 103, 104, 105, 106, 107, 107);
        Check.due("none", x.move(0, 3, 1, 2, 0), 0);
        Check.due("none at the ends", x.move(0, 10, 1, 4, 0), 0);
        Check.due("none behind the end", x.move(0, 11, 1, 0, 0), -12);
        Check.due("none behind the other end", x.move(0, 0, 1, 5, 0), -12);
        Check.due("row", x.move(-1, 0, 1, 0, 1), -1);
        Check.due("other", x.move(0, 0, 3, 0, 1), -1);
        Check.due("row ahead of missing", x.move(2, 0, 3, 0, 1), -1);
        Check.due("missing", x.move(2, 0, 1, 0, 1), -11);
        Check.due("missing other", x.move(0, 0, 2, 0, 1), -11);
        Check.due("missing ahead of the place", x.move(0, -5, 2, 0, 1), -11);
        x.sheet(2, 0, 40);
        Check.due("two sorts", x.move(0, 0, 2, 0, 1), -13);
        Check.due("two sorts", x.move(2, 0, 0, 0, 1), -13);
        Check.due("two sorts ahead of the place", x.move(0, 0, 2, 0, -1), -13);
        int[][] no = {{-1, 0, 1}, {0, -1, 1}, {0, 0, -1}, {7, 0, 4}, {0, 1, 4}, {0, 0, 5}, {10, 0, 1}, {0, 4, 1},
            {0, 0, Integer.MAX_VALUE}, {1, 1, Integer.MAX_VALUE}, {Integer.MAX_VALUE, 0, 1}, {0, Integer.MAX_VALUE, 1},
            {Integer.MAX_VALUE, Integer.MAX_VALUE, Integer.MAX_VALUE}, {Integer.MIN_VALUE, 0, 1},
            {0, 0, Integer.MIN_VALUE}, {Integer.MIN_VALUE, Integer.MIN_VALUE, Integer.MIN_VALUE}};
        for (int[] n : no) {
            Check.due("no place", x.move(0, n[0], 1, n[1], n[2]), -12);
        }
        row(x, 1, 0, 107, 108, 109);
        x.sheet(0, 0, 2);
        x.put(0, 1, 200);
        Check.due("bytes", x.move(0, 0, 2, 38, 2), 2);
        Check.due("a byte", x.get(2, 39), -56);
    }

    private static void loads() {
        HiddenRelations x = filled();
        for (int k = 0; k < 32; k++) {
            x.term(5, k, 9);
        }
        x.put(0, 1, -1);
        Check.due("loads", x.loads(5, 0), 10);
        Check.terms("loads", x, 5, 3, 96, 5, 6, 7, 8, 9, 10, 11, 12);
        x.sheet(0, 1, 40);
        for (int i = 0; i < 40; i++) {
            x.put(0, i, i);
        }
        Check.due("further ones", x.loads(5, 0), 32);
        Check.due("the last", x.at(5, 31), 31);
        x.sheet(0, 0, 33);
        x.put(0, 31, 255);
        Check.due("bytes", x.loads(5, 0), 32);
        Check.due("a byte below 0", x.at(5, 31), 96);
        x.sheet(0, 0, 0);
        Check.due("none", x.loads(5, 0), 0);
        Check.due("all 0", x.zeros(5), 32);
        Check.due("series", x.loads(6, 0), -1);
        Check.due("row", x.loads(0, 3), -1);
        Check.due("row", x.loads(0, -1), -1);
        Check.due("series ahead of missing", x.loads(-1, 2), -1);
        x.term(0, 0, 4);
        Check.due("missing", x.loads(0, 2), -11);
        Check.due("changes nothing", x.at(0, 0), 4);
    }

    private static void spills() {
        HiddenRelations x = new HiddenRelations();
        x.field(997);
        for (int k = 0; k < 32; k++) {
            x.term(0, k, 900 + k);
        }
        x.sheet(0, 1, 40);
        x.put(0, 31, 5);
        x.put(0, 32, 6);
        Check.due("spills", x.spills(0, 0), 32);
        Check.due("the first", x.get(0, 0), 900);
        Check.due("the last", x.get(0, 31), 931);
        Check.due("behind it", x.get(0, 32), 6);
        x.sheet(1, 0, 5);
        Check.due("few places", x.spills(0, 1), 5);
        Check.due("a byte", x.get(1, 4), (byte) 904);
        x.sheet(1, 0, 0);
        Check.due("no places", x.spills(0, 1), 0);
        Check.due("series", x.spills(-1, 0), -1);
        Check.due("row", x.spills(0, 3), -1);
        Check.due("row ahead of missing", x.spills(6, 2), -1);
        Check.due("missing", x.spills(0, 2), -11);
    }
}
