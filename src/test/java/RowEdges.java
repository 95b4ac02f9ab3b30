/** Boundary cases of rows: promises 29 to 34. */
final class RowEdges {
    private static final int LEAST = Integer.MIN_VALUE;
    private static final int GREATEST = Integer.MAX_VALUE;
    private static final int[] NO_ROWS = {-1, 3, LEAST, GREATEST};
    private static final int[] NO_SERIES = {-1, 6, LEAST, GREATEST};

    private RowEdges() {
    }

    /** A row of ints: 10, 11, 12, .. */
    private static void counted(HiddenRelations x, int row, int n) {
        x.sheet(row, 1, n);
        for (int i = 0; i < n; i++) {
            x.put(row, i, 10 + i);
        }
    }

    private static void row(HiddenRelations x, int row, int... want) {
        for (int i = 0; i < want.length; i++) {
            Check.due("get(" + row + ", " + i + ")", x.get(row, i), want[i]);
        }
        Check.due("no further number", Check.thrown(x, row, want.length), 3);
    }

    // sheet

    @Says(at = "Terms 4", words = "ROWS 0 .. 2 have up to 40 numbers, of sort 0 bytes, 1 ints, or are missing (at first).")
    private static void rowsOfNoneAndOfForty(HiddenRelations x) {
        for (int row = 0; row < 3; row++) {
            Check.due("no numbers", x.sheet(row, 1, 0), 1);
            row(x, row);
            Check.due("40 numbers", x.sheet(row, 1, 40), 1);
            row(x, row, new int[40]);
            Check.due("the last", x.put(row, 39, 7), 1);
            Check.due("it is there", x.get(row, 39), 7);
            Check.due("none behind it", x.put(row, 40, 7), -12);
        }
        Check.due("three rows", x.count(3), 3);
    }

    @Says(at = "Promise 29", words = "A ROW gets n numbers of a sort, all 0: 1.")
    private static void sheetAnewIsZero(HiddenRelations x) {
        counted(x, 1, 40);
        Check.due("few", x.sheet(1, 1, 2), 1);
        row(x, 1, 0, 0);
        Check.due("many again", x.sheet(1, 1, 40), 1);
        row(x, 1, new int[40]);
        x.put(1, 0, 9);
        Check.due("as many, of the other sort", x.sheet(1, 0, 40), 1);
        row(x, 1, new int[40]);
        Check.due("one row", x.count(3), 1);
    }

    @Says(at = "Promise 29", words = "BAD: row, sort, n above 40; -14.")
    private static void sheetOfNoRow(HiddenRelations x) {
        for (int row : NO_ROWS) {
            Check.due("sheet(" + row + ", 0, 1)", x.sheet(row, 0, 1), -1);
            Check.due("BAD ahead of -14", x.sheet(row, 0, -1), -1);
        }
        Check.due("all are missing", x.count(3), 0);
    }

    @Says(at = "Promise 29", words = "BAD: row, sort, n above 40; -14.")
    private static void sheetOfNoSort(HiddenRelations x) {
        int[] none = {-1, 2, LEAST, GREATEST};
        for (int sort : none) {
            Check.due("sheet(0, " + sort + ", 1)", x.sheet(0, sort, 1), -1);
            Check.due("BAD ahead of -14", x.sheet(0, sort, -1), -1);
        }
        Check.due("all are missing", x.count(3), 0);
    }

    @Says(at = "Promise 29", words = "n above 40;")
    private static void sheetTooLarge(HiddenRelations x) {
        counted(x, 0, 2);
        int[] none = {41, 42, GREATEST};
        for (int n : none) {
            Check.due("sheet(0, 1, " + n + ")", x.sheet(0, 1, n), -1);
            row(x, 0, 10, 11);
        }
    }

    @Says(at = "Terms 4", words = "-14 a size below 0.")
    private static void sheetTooSmall(HiddenRelations x) {
        counted(x, 0, 2);
        int[] none = {-1, -40, LEAST};
        for (int n : none) {
            Check.due("sheet(0, 1, " + n + ")", x.sheet(0, 1, n), -14);
            row(x, 0, 10, 11);
        }
        Check.due("of a missing one", x.sheet(2, 0, -1), -14);
        Check.due("it is missing", x.count(3), 1);
    }

    // put, get

    @Says(at = "Promise 30", words = "Number i of a ROW becomes v (bytes: its lowest 8 bits): 1.")
    private static void bytesWrapAround(HiddenRelations x) {
        int[] put = {0, 127, 128, 129, 255, 256, 257, 383, 384, -1, -128, -129, -256, LEAST, GREATEST, 0x12345680};
        int[] got = {0, 127, -128, -127, -1, 0, 1, 127, -128, -1, -128, 127, 0, 0, -1, -128};
        x.sheet(0, 0, 2);
        for (int i = 0; i < put.length; i++) {
            Check.due("put of " + put[i], x.put(0, 1, put[i]), 1);
            Check.due("get", x.get(0, 1), got[i]);
        }
    }

    @Says(at = "Promise 30", words = "Number i of a ROW becomes v (bytes: its lowest 8 bits): 1.")
    private static void intsDoNot(HiddenRelations x) {
        int[] put = {0, 128, 255, 256, -129, LEAST, GREATEST};
        x.sheet(0, 1, 2);
        for (int v : put) {
            Check.due("put of " + v, x.put(0, 1, v), 1);
            Check.due("get", x.get(0, 1), v);
        }
    }

    @Says(at = "Promise 30", words = "BAD; -11; -12.")
    private static void putInNoRow(HiddenRelations x) {
        for (int row : NO_ROWS) {
            Check.due("put(" + row + ", 0, 1)", x.put(row, 0, 1), -1);
            Check.due("BAD ahead of -12", x.put(row, -1, 1), -1);
        }
    }

    @Says(at = "Terms 4", words = "-11 a ROW is missing;")
    private static void putInAMissingRow(HiddenRelations x) {
        for (int row = 0; row < 3; row++) {
            Check.due("put(" + row + ", 0, 1)", x.put(row, 0, 1), -11);
            Check.due("-11 ahead of -12", x.put(row, -1, 1), -11);
        }
    }

    @Says(at = "Terms 4", words = "-12 no such place;")
    private static void putInNoPlace(HiddenRelations x) {
        int[] sizes = {0, 1, 39, 40};
        for (int n : sizes) {
            x.sheet(2, 0, n);
            int[] none = {-1, n, n + 1, 40, LEAST, GREATEST};
            for (int i : none) {
                Check.due("put(2, " + i + ", 1) of " + n, x.put(2, i, 1), -12);
            }
            row(x, 2, new int[n]);
        }
    }

    @Says(at = "Promise 31", words = "IllegalArgumentException: no such ROW;")
    private static void getFromNoRow(HiddenRelations x) {
        for (int row : NO_ROWS) {
            Check.due("get(" + row + ", 0) throws", Check.thrown(x, row, 0), 1);
            Check.due("ahead of no such place", Check.thrown(x, row, -1), 1);
        }
    }

    @Says(at = "Promise 31", words = "IllegalStateException: it is missing;")
    private static void getFromAMissingRow(HiddenRelations x) {
        for (int row = 0; row < 3; row++) {
            Check.due("get(" + row + ", 0) throws", Check.thrown(x, row, 0), 2);
            Check.due("ahead of no such place", Check.thrown(x, row, -1), 2);
        }
    }

    @Says(at = "Promise 31", words = "IndexOutOfBoundsException: no such place.")
    private static void getFromNoPlace(HiddenRelations x) {
        int[] sizes = {0, 1, 39, 40};
        for (int n : sizes) {
            x.sheet(0, 1, n);
            int[] none = {-1, n, n + 1, 40, LEAST, GREATEST};
            for (int i : none) {
                Check.due("get(0, " + i + ") of " + n + " throws", Check.thrown(x, 0, i), 3);
            }
            Check.due("the last", n > 0 ? Check.thrown(x, 0, n - 1) : 0, 0);
        }
    }

    // move

    @Says(at = "Promise 32", words = "come to another one (or the same) from place j on, as they all were: n.")
    private static void moveOntoItselfUp(HiddenRelations x) {
        counted(x, 0, 5);
        Check.due("move", x.move(0, 0, 0, 1, 4), 4);
        row(x, 0, 10, 10, 11, 12, 13);
    }

    @Says(at = "Promise 32", words = "come to another one (or the same) from place j on, as they all were: n.")
    private static void moveOntoItselfDown(HiddenRelations x) {
        counted(x, 0, 5);
        Check.due("move", x.move(0, 1, 0, 0, 4), 4);
        row(x, 0, 11, 12, 13, 14, 14);
        Check.due("where it is", x.move(0, 0, 0, 0, 5), 5);
        row(x, 0, 11, 12, 13, 14, 14);
    }

    @Says(at = "Promise 32", words = "n numbers of a ROW from place i on come to another one")
    private static void moveOfAllAndOfNone(HiddenRelations x) {
        counted(x, 0, 40);
        x.sheet(1, 1, 40);
        Check.due("none", x.move(0, 0, 1, 0, 0), 0);
        Check.due("none at the ends", x.move(0, 40, 1, 40, 0), 0);
        row(x, 1, new int[40]);
        Check.due("all", x.move(0, 0, 1, 0, 40), 40);
        Check.due("the first", x.get(1, 0), 10);
        Check.due("the last", x.get(1, 39), 49);
        x.sheet(2, 1, 0);
        Check.due("none to none", x.move(2, 0, 2, 0, 0), 0);
    }

    @Says(at = "Promise 32", words = "n numbers of a ROW from place i on come to another one")
    private static void moveToTheLastPlace(HiddenRelations x) {
        counted(x, 0, 3);
        x.sheet(1, 1, 2);
        Check.due("the last to the last", x.move(0, 2, 1, 1, 1), 1);
        row(x, 1, 0, 12);
        Check.due("the first to the first", x.move(0, 0, 1, 0, 1), 1);
        row(x, 1, 10, 12);
        row(x, 0, 10, 11, 12);
    }

    @Says(at = "Promise 32", words = "BAD: rows; -11: either; -13; -12 (also with n below 0).")
    private static void moveOfNoRow(HiddenRelations x) {
        counted(x, 0, 3);
        for (int row : NO_ROWS) {
            Check.due("one", x.move(row, 0, 0, 0, 1), -1);
            Check.due("other", x.move(0, 0, row, 0, 1), -1);
            Check.due("BAD ahead of -11", x.move(1, 0, row, 0, 1), -1);
            Check.due("BAD ahead of -12", x.move(row, -1, 0, -1, -1), -1);
        }
        row(x, 0, 10, 11, 12);
    }

    @Says(at = "Promise 32", words = "-11: either;")
    private static void moveOfAMissingRow(HiddenRelations x) {
        counted(x, 0, 3);
        Check.due("one", x.move(1, 0, 0, 0, 1), -11);
        Check.due("other", x.move(0, 0, 1, 0, 1), -11);
        Check.due("both", x.move(1, 0, 2, 0, 1), -11);
        Check.due("the same", x.move(1, 0, 1, 0, 0), -11);
        Check.due("ahead of -12", x.move(0, -1, 1, 0, -1), -11);
        x.sheet(2, 0, 3);
        Check.due("bytes, too", x.move(2, 0, 1, 0, 1), -11);
        row(x, 0, 10, 11, 12);
    }

    @Says(at = "Terms 4", words = "-13 ROWS of two sorts;")
    private static void moveOfTwoSorts(HiddenRelations x) {
        counted(x, 0, 3);
        x.sheet(1, 0, 3);
        Check.due("ints to bytes", x.move(0, 0, 1, 0, 1), -13);
        Check.due("bytes to ints", x.move(1, 0, 0, 0, 1), -13);
        Check.due("none of them", x.move(0, 0, 1, 0, 0), -13);
        Check.due("ahead of -12", x.move(0, 3, 1, 3, 1), -13);
        Check.due("ahead of n below 0", x.move(0, 0, 1, 0, -1), -13);
        row(x, 0, 10, 11, 12);
        row(x, 1, 0, 0, 0);
    }

    @Says(at = "Promise 32", words = "-12 (also with n below 0).")
    private static void moveOfFewerThanNone(HiddenRelations x) {
        counted(x, 0, 3);
        int[] none = {-1, -3, LEAST};
        for (int n : none) {
            Check.due("n " + n, x.move(0, 0, 0, 1, n), -12);
            Check.due("n " + n + " from the end", x.move(0, 3, 0, 3, n), -12);
        }
        row(x, 0, 10, 11, 12);
    }

    @Says(at = "Promise 32", words = "-12 (also with n below 0).")
    private static void moveFromNoPlace(HiddenRelations x) {
        counted(x, 0, 3);
        x.sheet(1, 1, 40);
        int[][] none = {{-1, 1}, {3, 1}, {2, 2}, {0, 4}, {1, GREATEST}, {GREATEST, 1}, {GREATEST, GREATEST}, {LEAST, 1},
            {LEAST, GREATEST}, {4, 0}, {-1, 0}};
        for (int[] n : none) {
            Check.due("from " + n[0] + " on " + n[1], x.move(0, n[0], 1, 0, n[1]), -12);
        }
        row(x, 1, new int[40]);
    }

    @Says(at = "Promise 32", words = "-12 (also with n below 0).")
    private static void moveToNoPlace(HiddenRelations x) {
        counted(x, 0, 40);
        x.sheet(1, 1, 3);
        int[][] none = {{-1, 1}, {3, 1}, {2, 2}, {0, 4}, {1, 40}, {GREATEST, 1}, {GREATEST, 40}, {LEAST, 1}, {4, 0}, {-1, 0}};
        for (int[] n : none) {
            Check.due("to " + n[0] + " on " + n[1], x.move(0, 0, 1, n[0], n[1]), -12);
        }
        row(x, 1, 0, 0, 0);
    }

    // loads

    @Says(at = "Promise 33", words = "as its TERMS, 0 where there are none, further ones left out: how many it had room for.")
    private static void loadsOfFewAndOfNone(HiddenRelations x) {
        for (int k = 0; k < 32; k++) {
            x.term(5, k, 50);
        }
        counted(x, 0, 3);
        Check.due("three", x.loads(5, 0), 3);
        Check.terms("three", x, 5, 10, 11, 12);
        x.term(5, 31, 1);
        x.sheet(0, 1, 0);
        Check.due("none", x.loads(5, 0), 0);
        Check.terms("none", x, 5);
    }

    @Says(at = "Promise 33", words = "further ones left out: how many it had room for.")
    private static void loadsOfTooMany(HiddenRelations x) {
        int[] sizes = {31, 32, 33, 40};
        for (int n : sizes) {
            counted(x, 0, n);
            Check.due("loads of " + n, x.loads(0, 0), Math.min(n, 32));
            Check.due("the first", x.at(0, 0), 10);
            Check.due("the last but one", x.at(0, 30), 40);
            Check.due("the last", x.at(0, 31), n > 31 ? 41 : 0);
        }
    }

    @Says(at = "Promise 33", words = "A SERIES gets a ROW's numbers (taken by p)")
    private static void loadsByP(HiddenRelations x) {
        int[] put = {96, 97, 98, -1, -97, -98, LEAST, GREATEST};
        x.sheet(0, 1, 8);
        for (int i = 0; i < 8; i++) {
            x.put(0, i, put[i]);
        }
        x.loads(0, 0);
        for (int i = 0; i < 8; i++) {
            Check.due("of " + put[i], x.at(0, i), Math.floorMod(put[i], 97L));
        }
        x.sheet(0, 0, 2);
        x.put(0, 0, 127);
        x.put(0, 1, 128);
        x.loads(0, 0);
        Check.terms("bytes", x, 0, 30, 66);
    }

    @Says(at = "Promise 33", words = "BAD: series, row; -11.")
    private static void loadsOfNone(HiddenRelations x) {
        x.sheet(0, 1, 1);
        x.term(0, 0, 4);
        for (int i = 0; i < 4; i++) {
            Check.due("series", x.loads(NO_SERIES[i], 0), -1);
            Check.due("row", x.loads(0, NO_ROWS[i]), -1);
            Check.due("BAD ahead of -11", x.loads(NO_SERIES[i], 1), -1);
        }
        Check.due("missing", x.loads(0, 1), -11);
        Check.terms("it stays", x, 0, 4);
    }

    // spills

    @Says(at = "Promise 34", words = "TERMS of a SERIES come to a ROW, as far as it has places: how many.")
    private static void spillsIntoFewAndIntoNone(HiddenRelations x) {
        for (int k = 0; k < 32; k++) {
            x.term(0, k, 50 + k);
        }
        x.sheet(0, 1, 0);
        Check.due("none", x.spills(0, 0), 0);
        row(x, 0);
        counted(x, 0, 3);
        Check.due("three", x.spills(0, 0), 3);
        row(x, 0, 50, 51, 52);
    }

    @Says(at = "Promise 34", words = "TERMS of a SERIES come to a ROW, as far as it has places: how many.")
    private static void spillsIntoMoreThanThereAre(HiddenRelations x) {
        for (int k = 0; k < 32; k++) {
            x.term(0, k, 50 + k);
        }
        int[] sizes = {31, 32, 33, 40};
        for (int n : sizes) {
            counted(x, 0, n);
            Check.due("spills into " + n, x.spills(0, 0), Math.min(n, 32));
            Check.due("the last but one", x.get(0, 30), 80);
            if (n > 31) {
                Check.due("the last", x.get(0, 31), 81);
            }
            for (int i = 32; i < n; i++) {
                Check.due("what stays behind it", x.get(0, i), 10 + i);
            }
        }
    }

    @Says(at = "Promise 30", words = "(bytes: its lowest 8 bits)")
    private static void spillsIntoBytes(HiddenRelations x) {
        x.field(997);
        int[] terms = {127, 128, 255, 256, 996};
        int[] want = {127, -128, -1, 0, -28};
        for (int k = 0; k < 5; k++) {
            x.term(0, k, terms[k]);
        }
        x.sheet(2, 0, 5);
        Check.due("spills", x.spills(0, 2), 5);
        row(x, 2, want);
    }

    @Says(at = "Promise 34", words = "BAD; -11.")
    private static void spillsOfNone(HiddenRelations x) {
        counted(x, 0, 1);
        for (int i = 0; i < 4; i++) {
            Check.due("series", x.spills(NO_SERIES[i], 0), -1);
            Check.due("row", x.spills(0, NO_ROWS[i]), -1);
            Check.due("BAD ahead of -11", x.spills(NO_SERIES[i], 1), -1);
        }
        Check.due("missing", x.spills(0, 1), -11);
        row(x, 0, 10);
    }
}
