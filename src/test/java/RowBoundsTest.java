/** Term I and promises 1 to 6: each sentence that names a bound, from both of its sides. */
public final class RowBoundsTest {
    private static final Check check = new Check("RowBoundsTest");
    private static final int LEAST = Integer.MIN_VALUE;
    private static final int MOST = Integer.MAX_VALUE;
    private static final int[] NO_VALUES = {-1001, 1001, LEAST, MOST};
    private static final int[] NO_ROWS = {-2, -3, -5000, 60, 61, LEAST, MOST};

    public static void main(String[] args) {
        tables0To3();
        rows0To59();
        sixtyRowsInAllAlsoThoseThatAreGone();
        valuesOfRow();
        valuesOfValue();
        valuesOfEdit();
        valuesOfTouched();
        referencesOfRow();
        referencesOfRefer();
        goneForEver();
        goneIsInNoPaper();
        eachTellingIsOneMoment();
        momentsAlsoIfNothingBecomesOtherwise();
        whatIsNoMoment();
        the300thMoment();
        rowIsRefusedInOrder();
        valueIsRefusedInOrder();
        referIsRefusedInOrder();
        goIsRefusedInOrder();
        promise1NothingInANewObject();
        promise3WhatItWas();
        promise5NoRowGoes();
        promise6Without();
        check.close();
    }

    /** An object behind so many moments: row 0 that a reader holds, rows 1 and 2 that may go. */
    private static PaperRows behind(int moments) {
        PaperRows x = Check.shaped("a{v}");
        for (int i = 0; i < 3; i++) {
            x.row(0, 0, -1, -1);
        }
        x.reader(0);
        for (int i = 3; i < moments; i++) {
            x.value(0, i);
        }
        x.send();
        return x;
    }

    private static PaperRows withRows(int rows) {
        PaperRows x = new PaperRows();
        for (int i = 0; i < rows; i++) {
            x.row(i % 4, i, -1, -1);
        }
        return x;
    }

    // "TABLES a, b, c, d (0 .. 3)", "-1 TABLE"
    private static void tables0To3() {
        PaperRows x = new PaperRows();
        for (int table = 0; table <= 3; table++) {
            check.told(x, "row of table " + table, x.row(table, 0, -1, -1), table, 0);
            check.due("of(" + table + ", 0)", x.of(table, 0), table);
        }
        for (int table : new int[] {-1, 4, LEAST, MOST}) {
            check.told(x, "row of table " + table, x.row(table, 0, -1, -1), -1, -1);
        }
        check.due("count(1) of tables", x.count(1), 4);
        check.due("count(4) of tables", x.count(4), 4);
        for (int table = 0; table <= 3; table++) {
            check.due("shape of a table", Check.shape(x, "abcd".substring(table, table + 1)), 1);
            for (int row = 0; row <= 3; row++) {
                check.due("size(" + row + ") by table " + table, x.size(row), row == table ? 2 : 0);
            }
        }
    }

    // "ROWS 0 .. 59", "-5 ROWS"
    private static void rows0To59() {
        PaperRows x = withRows(59);
        check.due("of(59, 4) of 59 rows", x.of(59, 4), Check.NOTHING);
        check.told(x, "value(59, 0) of 59 rows", x.value(59, 0), -2, -2);
        check.told(x, "the 60th row", x.row(3, 59, 58, 0), 59, 0);
        check.told(x, "the 61st row", x.row(3, 59, 58, 0), -5, -5);
        check.due("of(59, 1)", x.of(59, 1), 59);
        check.due("of(60, 1)", x.of(60, 1), Check.NOTHING);
        check.told(x, "value(59, 7)", x.value(59, 7), 59, 0);
        check.told(x, "value(60, 7)", x.value(60, 7), -2, -2);
        check.told(x, "refer(59, 0, 59)", x.refer(59, 0, 59), 0, 0);
        check.told(x, "refer(60, 0, 59)", x.refer(60, 0, 59), -2, -2);
        check.told(x, "reader(59)", x.reader(59), 0, 0);
        check.told(x, "reader(60)", x.reader(60), -2, -2);
        check.told(x, "go(60)", x.go(60), -2, -2);
        check.told(x, "go(59)", x.go(59), 0, 0);
        check.due("count(1) of 60", x.count(1), 60);
    }

    // "(60 in all, also those that are gone)"
    private static void sixtyRowsInAllAlsoThoseThatAreGone() {
        PaperRows x = withRows(60);
        for (int row = 0; row < 60; row++) {
            check.told(x, "go(" + row + ")", x.go(row), 0, 0);
            check.told(x, "row behind it", x.row(0, 0, -1, -1), -5, -5);
        }
        check.due("count(0) of all gone", x.count(0), 0);
        check.due("count(1) of all gone", x.count(1), 60);
        PaperRows y = new PaperRows();
        for (int row = 0; row < 60; row++) {
            check.told(y, "row " + row + " behind gone ones", y.row(0, 0, -1, -1), row, 0);
            check.told(y, "go(" + row + ") at once", y.go(row), 0, 0);
        }
        check.told(y, "the 61st row when no other stands", y.row(0, 0, -1, -1), -5, -5);
    }

    // "a VALUE (-1000 .. 1000)", promise 2: "-1 TABLE, VALUE"
    private static void valuesOfRow() {
        PaperRows x = new PaperRows();
        check.told(x, "row of -1000", x.row(0, -1000, -1, -1), 0, 0);
        check.told(x, "row of 1000", x.row(0, 1000, -1, -1), 1, 0);
        check.due("of(0, 1)", x.of(0, 1), -1000);
        check.due("of(1, 1)", x.of(1, 1), 1000);
        for (int value : NO_VALUES) {
            check.told(x, "row of " + value, x.row(0, value, -1, -1), -1, -1);
        }
        check.due("count(1) of values", x.count(1), 2);
        check.due("count(4) of values", x.count(4), 2);
    }

    // promise 3: "-1"
    private static void valuesOfValue() {
        PaperRows x = withRows(1);
        check.told(x, "value(0, -1000)", x.value(0, -1000), 0, 0);
        check.told(x, "value(0, 1000)", x.value(0, 1000), -1000, 0);
        for (int value : NO_VALUES) {
            check.told(x, "value(0, " + value + ")", x.value(0, value), -1, -1);
        }
        check.due("of(0, 1) stays", x.of(0, 1), 1000);
        check.due("count(4) stays", x.count(4), 3);
    }

    // promise 18: "-1 VALUE"
    private static void valuesOfEdit() {
        PaperRows x = behind(3);
        check.told(x, "edit to -1000", x.edit(0, 1, -1000), 0, 0);
        check.told(x, "edit to 1000", x.edit(0, 1, 1000), 0, 0);
        for (int value : NO_VALUES) {
            check.told(x, "edit to " + value, x.edit(0, 1, value), -1, -1);
        }
        check.due("holds(0, 1) stays", x.holds(0, 1), 1000);
        check.due("of(0, 1) stays", x.of(0, 1), 1000);
        check.due("count(4) stays", x.count(4), 5);
    }

    // promise 20: "0 without the ROW, VALUE"
    private static void valuesOfTouched() {
        PaperRows x = behind(3);
        check.due("touched(0, -1000)", x.touched(0, -1000), 1);
        check.due("touched(0, 1000)", x.touched(0, 1000), 1);
        for (int value : NO_VALUES) {
            check.due("touched(0, " + value + ")", x.touched(0, value), 0);
        }
    }

    // "two REFERENCES 0, 1, each to a ROW or none", promise 2: "(REFERENCES to ROWS, NONE)", "-2 a REFERENCE"
    private static void referencesOfRow() {
        PaperRows x = withRows(58);
        x.go(5);
        check.told(x, "row to none", x.row(0, 0, -1, -1), 58, 0);
        for (int to : NO_ROWS) {
            check.told(x, "row by 0 to " + to, x.row(0, 0, to, -1), -2, -2);
            check.told(x, "row by 1 to " + to, x.row(0, 0, -1, to), -2, -2);
        }
        check.told(x, "row by 0 to a gone one", x.row(0, 0, 5, -1), -2, -2);
        check.told(x, "row by 1 to a gone one", x.row(0, 0, -1, 5), -2, -2);
        check.told(x, "row by 0 to itself", x.row(0, 0, 59, -1), -2, -2);
        check.told(x, "row by 1 to itself", x.row(0, 0, -1, 59), -2, -2);
        check.told(x, "row to the last and the first", x.row(0, 0, 58, 0), 59, 0);
        check.due("of(58, 2)", x.of(58, 2), -1);
        check.due("of(58, 3)", x.of(58, 3), -1);
        check.due("of(59, 2)", x.of(59, 2), 58);
        check.due("of(59, 3)", x.of(59, 3), 0);
    }

    // promise 4: "REFERENCE r of a ROW to a ROW (NONE: to none)", "-1 r; -2"
    private static void referencesOfRefer() {
        PaperRows x = withRows(60);
        x.go(5);
        for (int r : new int[] {-1, 2, LEAST, MOST}) {
            check.told(x, "refer(0, " + r + ", 1)", x.refer(0, r, 1), -1, -1);
        }
        for (int row : NO_ROWS) {
            check.told(x, "refer(" + row + ", 0, 1)", x.refer(row, 0, 1), -2, -2);
            check.told(x, "refer(0, 0, " + row + ")", x.refer(0, 0, row), -2, -2);
            check.told(x, "refer(0, 1, " + row + ")", x.refer(0, 1, row), -2, -2);
        }
        check.told(x, "refer(-1, 0, 1)", x.refer(-1, 0, 1), -2, -2);
        check.told(x, "refer of a gone one", x.refer(5, 0, 1), -2, -2);
        check.told(x, "refer of a gone one to none", x.refer(5, 0, -1), -2, -2);
        check.told(x, "refer to a gone one", x.refer(0, 1, 5), -2, -2);
        check.due("count(4) stays", x.count(4), 61);
        int[][] told = {{0, 59}, {1, 0}, {0, 0}, {0, 58}, {1, 59}, {0, 59}, {1, 1}, {1, -1}, {1, 2}, {0, -1}, {1, -1}};
        int[] references = {-1, -1};
        for (int[] one : told) {
            references[one[0]] = one[1];
            check.told(x, "refer(0, " + one[0] + ", " + one[1] + ")", x.refer(0, one[0], one[1]), 0, 0);
            check.due("of(0, 2) behind it", x.of(0, 2), references[0]);
            check.due("of(0, 3) behind it", x.of(0, 3), references[1]);
        }
    }

    // "or gone (for ever)"
    private static void goneForEver() {
        PaperRows x = behind(3);
        check.told(x, "go(0)", x.go(0), 0, 0);
        check.told(x, "value of it", x.value(0, 0), -2, -2);
        check.told(x, "refer of it", x.refer(0, 0, 1), -2, -2);
        check.told(x, "refer to it", x.refer(1, 0, 0), -2, -2);
        check.told(x, "row to it", x.row(0, 0, 0, 0), -2, -2);
        check.told(x, "reader of it", x.reader(0), -2, -2);
        check.told(x, "edit of it", x.edit(0, 1, 0), -3, -3);
        check.told(x, "go(0) again", x.go(0), -2, -2);
        check.told(x, "a row like it", x.row(0, 0, -1, -1), 3, 0);
        check.told(x, "a shape behind it", Check.shape(x, "a{v}"), 1, 0);
        check.due("send() behind it", x.send(), 1);
        check.due("of(0, 4)", x.of(0, 4), 0);
        check.due("size(0)", x.size(0), 0);
        check.due("count(0)", x.count(0), 3);
        check.due("touched(0, 5)", x.touched(0, 5), 0);
    }

    // "what is gone is in no PAPER, as if no ROW referred to it"
    private static void goneIsInNoPaper() {
        PaperRows x = Check.shaped("a{up0b{up1c},down1d{v,down0a}}");
        x.row(2, 1, -1, -1);
        x.row(1, 2, -1, 0);
        x.row(0, 3, 1, -1);
        x.row(3, 4, -1, 2);
        x.row(0, 5, 3, -1);
        check.paper(x, 2, 10002, 10001, 10000, 30000, 30000, 10003, 4, 10004, 30000, 30000, 30000);
        x.go(4);
        check.paper(x, 2, 10002, 10001, 10000, 30000, 30000, 10003, 4, 30000, 30000);
        x.go(0);
        check.paper(x, 2, 10002, 10001, 30000, 10003, 4, 30000, 30000);
        x.go(1);
        check.paper(x, 2, 10002, 10003, 4, 30000, 30000);
        x.go(3);
        check.paper(x, 2, 10002, 30000);
        check.due("of(2, 2) as it was told", x.of(2, 2), 1);
        x.go(2);
        check.paper(x, 2);
        // What a gone row stood above goes out of the paper with it, and comes in where it is wanted elsewhere.
        PaperRows y = Check.shaped("a{up0b{up0c},up1c}");
        y.row(2, 1, -1, -1);
        y.row(1, 2, 0, -1);
        y.row(0, 3, 1, 0);
        check.paper(y, 2, 10002, 10001, 10000, 30000, 30000, 20000, 30000);
        y.go(1);
        check.paper(y, 2, 10002, 10000, 30000, 30000);
    }

    // "each ROW that comes, each VALUE, REFERENCE that is told, each ROW that goes is one more"
    private static void eachTellingIsOneMoment() {
        PaperRows x = Check.shaped("a{v}");
        check.due("count(4) at first", x.count(4), 0);
        x.row(0, 0, -1, -1);
        check.due("count(4) behind row", x.count(4), 1);
        x.row(0, 0, 0, 0);
        check.due("count(4) behind row with references", x.count(4), 2);
        x.value(0, 7);
        check.due("count(4) behind value", x.count(4), 3);
        x.refer(0, 0, 1);
        check.due("count(4) behind refer", x.count(4), 4);
        x.reader(0);
        x.send();
        x.edit(0, 1, 9);
        check.due("count(4) behind edit", x.count(4), 5);
        x.go(0);
        check.due("count(4) behind go", x.count(4), 6);
    }

    // "(also if nothing becomes otherwise)"
    private static void momentsAlsoIfNothingBecomesOtherwise() {
        PaperRows x = behind(3);
        check.told(x, "value that is", x.value(0, 0), 0, 0);
        check.due("count(4) behind it", x.count(4), 4);
        check.told(x, "refer to none that is none", x.refer(0, 0, -1), 0, 0);
        check.due("count(4) behind it", x.count(4), 5);
        x.refer(0, 1, 2);
        check.told(x, "refer to the row it is", x.refer(0, 1, 2), 0, 0);
        check.due("count(4) behind it", x.count(4), 7);
        check.told(x, "edit to the value it is", x.edit(0, 1, 0), 0, 0);
        check.due("count(4) behind it", x.count(4), 8);
        check.due("asOf(8, 0, 1)", x.asOf(8, 0, 1), 0);
        check.due("asOf(9, 0, 1)", x.asOf(9, 0, 1), Check.NOTHING);
    }

    private static void whatIsNoMoment() {
        PaperRows x = behind(3);
        x.row(4, 0, -1, -1);
        x.row(0, 0, 60, -1);
        x.value(0, 1001);
        x.value(60, 0);
        x.refer(0, 2, 0);
        x.refer(0, 0, 60);
        x.go(60);
        x.edit(0, 0, 0);
        x.edit(1, 1, 0);
        x.edit(0, 1, 1001);
        Check.shape(x, "a{v,v}");
        Check.shape(x, "a{");
        x.reader(1);
        x.send();
        x.touched(0, 9);
        x.asOf(1, 0, 0);
        check.due("count(4) behind no moments", x.count(4), 3);
    }

    private static int tell(PaperRows x, int kind, int goes) {
        switch (kind) {
            case 0: return x.row(0, 0, -1, -1);
            case 1: return x.value(0, 5);
            case 2: return x.refer(0, 0, 0);
            case 3: return x.go(goes);
            default: return x.edit(0, 1, 7);
        }
    }

    // "MOMENTS 0 .. 300", "-5 MOMENTS"
    private static void the300thMoment() {
        int[] answers = {3, 298, 0, 0, 0};
        for (int kind = 0; kind < answers.length; kind++) {
            PaperRows x = behind(299);
            check.due("count(4) behind 299", x.count(4), 299);
            check.told(x, "the 300th moment of kind " + kind, tell(x, kind, 1), answers[kind], 0);
            check.due("count(4) behind 300", x.count(4), 300);
            x.send();
            int value = x.of(0, 1);
            for (int next = 0; next < answers.length; next++) {
                check.told(x, "the 301st moment of kind " + next + " behind " + kind, tell(x, next, 2), -5, -5);
            }
            check.due("count(4) stays", x.count(4), 300);
            check.due("count(1) stays", x.count(1), kind == 0 ? 4 : 3);
            check.due("of(0, 1) stays", x.of(0, 1), value);
            check.due("of(0, 2) stays", x.of(0, 2), kind == 2 ? 0 : -1);
            check.due("of(1, 4)", x.of(1, 4), kind == 3 ? 0 : 1);
            check.due("of(2, 4) stays", x.of(2, 4), 1);
            check.due("holds(0, 1) stays", x.holds(0, 1), value);
        }
    }

    private static PaperRows withRowsAndMoments(int rows, int moments) {
        PaperRows x = withRows(rows);
        for (int i = rows; i < moments; i++) {
            x.value(0, 0);
        }
        return x;
    }

    // "The first of these in that order": -1 TABLE, VALUE; -2 a REFERENCE; -5 ROWS, MOMENTS
    private static void rowIsRefusedInOrder() {
        int[][] states = {{3, 3}, {60, 60}, {3, 300}, {60, 300}};
        for (int[] state : states) {
            PaperRows x = withRowsAndMoments(state[0], state[1]);
            for (int bad = 15; bad >= 0; bad--) {
                int table = (bad & 1) == 0 ? 3 : 4;
                int value = (bad & 2) == 0 ? 1000 : 1001;
                int r0 = (bad & 4) == 0 ? 2 : -2;
                int r1 = (bad & 8) == 0 ? -1 : 60;
                int room = state[1] == 3 ? 0 : -5;
                int by = (bad & 3) != 0 ? -1 : bad != 0 ? -2 : room;
                check.told(x, "row " + bad + " of " + state[0] + ", " + state[1], x.row(table, value, r0, r1), by == 0 ? 3 : by, by);
            }
            check.due("count(1)", x.count(1), state[1] == 3 ? 4 : state[0]);
        }
    }

    // -1; -2; -5
    private static void valueIsRefusedInOrder() {
        for (int moments : new int[] {3, 300}) {
            PaperRows x = withRowsAndMoments(3, moments);
            check.told(x, "value of -1 and -2", x.value(3, 1001), -1, -1);
            check.told(x, "value of -1", x.value(2, -1001), -1, -1);
            check.told(x, "value of -2", x.value(3, 1000), -2, -2);
            check.told(x, "value at " + moments, x.value(2, 1000), moments == 3 ? 2 : -5, moments == 3 ? 0 : -5);
        }
    }

    // -1 r; -2; -5
    private static void referIsRefusedInOrder() {
        for (int moments : new int[] {3, 300}) {
            PaperRows x = withRowsAndMoments(3, moments);
            for (int bad = 7; bad >= 0; bad--) {
                int row = (bad & 1) == 0 ? 2 : 3;
                int r = (bad & 2) == 0 ? 1 : 2;
                int to = (bad & 4) == 0 ? 2 : 3;
                int by = (bad & 2) != 0 ? -1 : bad != 0 ? -2 : moments == 3 ? 0 : -5;
                check.told(x, "refer " + bad + " at " + moments, x.refer(row, r, to), by, by);
            }
        }
    }

    // -2; -5
    private static void goIsRefusedInOrder() {
        for (int moments : new int[] {4, 300}) {
            PaperRows x = withRows(3);
            x.go(0);
            for (int i = 4; i < moments; i++) {
                x.value(1, 0);
            }
            check.told(x, "go of none at " + moments, x.go(3), -2, -2);
            check.told(x, "go of a gone one at " + moments, x.go(0), -2, -2);
            check.told(x, "go at " + moments, x.go(1), moments == 4 ? 0 : -5, moments == 4 ? 0 : -5);
        }
    }

    // "No ROWS, READERS, SHAPE."
    private static void promise1NothingInANewObject() {
        for (int row : new int[] {-1, 0, 59, 60}) {
            PaperRows x = new PaperRows();
            check.told(x, "value of no rows", x.value(row, 0), -2, -2);
            check.told(x, "refer of no rows", x.refer(row, 0, -1), -2, -2);
            check.told(x, "go of no rows", x.go(row), -2, -2);
            check.told(x, "reader of no rows", x.reader(row), -2, -2);
            check.told(x, "edit of no readers", x.edit(row, 0, 0), -2, -2);
            check.told(x, "shape of no text", x.shape(), -6, -6);
            check.due("of no rows", x.of(row, 0), Check.NOTHING);
            check.due("holds of no readers", x.holds(row, 0), Check.NOTHING);
            check.due("same of no readers", x.same(row), -1);
            check.due("page of no rows", x.page(row, 1, 0, 0), Check.NOTHING);
            check.due("page of no rows has none", x.page(row, 1, 0, -1), 0);
            check.paper(x, row);
            check.paperAsOf(x, 0, row);
            check.due("touched of no rows", x.touched(row, 0), 0);
            check.due("send() to no readers", x.send(), 0);
            check.due("end(0) of no tape", x.end(0), 0);
            check.due("the first row", x.row(0, 0, -1, -1), 0);
            check.paper(x, 0);
        }
    }

    // "what it was (status() tells whether it was told)"
    private static void promise3WhatItWas() {
        PaperRows x = new PaperRows();
        x.row(0, -1000, -1, -1);
        int was = -1000;
        for (int value : new int[] {-1, -2, -3, -5, -6, -1000, 1000, 0}) {
            check.told(x, "value(0, " + value + ")", x.value(0, value), was, 0);
            was = value;
        }
        for (int row : NO_ROWS) {
            check.told(x, "value(" + row + ", 0)", x.value(row, 0), -2, -2);
        }
        check.told(x, "value(-1, 0)", x.value(-1, 0), -2, -2);
        check.told(x, "value(1, 0)", x.value(1, 0), -2, -2);
    }

    // "-2"
    private static void promise5NoRowGoes() {
        PaperRows x = withRows(2);
        for (int row : NO_ROWS) {
            check.told(x, "go(" + row + ")", x.go(row), -2, -2);
        }
        check.told(x, "go(-1)", x.go(-1), -2, -2);
        check.told(x, "go(2)", x.go(2), -2, -2);
        check.due("count(0) of two", x.count(0), 2);
        check.told(x, "go(1)", x.go(1), 0, 0);
        check.told(x, "go(1) again", x.go(1), -2, -2);
        check.told(x, "go(0)", x.go(0), 0, 0);
        check.due("count(0) of none", x.count(0), 0);
    }

    // "(NONE, as they were told)", "4 1 it is there, else 0", "-5000 without"
    private static void promise6Without() {
        PaperRows x = new PaperRows();
        x.row(3, 1000, -1, -1);
        x.row(0, -1000, 0, 0);
        for (int row = 0; row < 2; row++) {
            for (int what : new int[] {-1, 5, LEAST, MOST}) {
                check.due("of(" + row + ", " + what + ")", x.of(row, what), Check.NOTHING);
            }
            check.due("of(" + row + ", 4)", x.of(row, 4), 1);
        }
        for (int what = -1; what <= 5; what++) {
            check.due("of(-1, " + what + ")", x.of(-1, what), Check.NOTHING);
            check.due("of(2, " + what + ")", x.of(2, what), Check.NOTHING);
            for (int row : NO_ROWS) {
                check.due("of(" + row + ", " + what + ")", x.of(row, what), Check.NOTHING);
            }
        }
        x.go(0);
        int[] gone = {3, 1000, -1, -1, 0};
        int[] stands = {0, -1000, 0, 0, 1};
        for (int what = 0; what < 5; what++) {
            check.due("of a gone row " + what, x.of(0, what), gone[what]);
            check.due("of a row that referred to it " + what, x.of(1, what), stands[what]);
        }
        x.row(2, 7, 1, -1);
        x.row(2, 8, -1, 2);
        x.row(1, 9, 2, 3);
        x.go(1);
        x.go(2);
        x.go(3);
        x.go(4);
        int[][] told = {{0, -1000, 0, 0, 0}, {2, 7, 1, -1, 0}, {2, 8, -1, 2, 0}, {1, 9, 2, 3, 0}};
        for (int row = 1; row <= 4; row++) {
            for (int what = 0; what < 5; what++) {
                check.due("of(" + row + ", " + what + ") when all are gone", x.of(row, what), told[row - 1][what]);
            }
        }
        check.due("of a gone row 5", x.of(0, 5), Check.NOTHING);
        check.due("of a gone row -1", x.of(0, -1), Check.NOTHING);
    }
}
