/** Promises 1 to 6: a new object, row, value, refer, go, of. */
public final class RowsTest {
    private static final Check check = new Check("RowsTest");

    public static void main(String[] args) {
        promise1NewObject();
        promise2Row();
        promise2RowIsRefusedInOrder();
        promise2SixtyRows();
        promise3Value();
        promise4Refer();
        promise5Go();
        promise6Of();
        promises2To5MomentsEnd();
        check.close();
    }

    private static void promise1NewObject() {
        PaperRows x = new PaperRows();
        check.due("NONE", PaperRows.NONE, -1);
        for (int what = 0; what <= 6; what++) {
            check.due("count(" + what + ") of a new object", x.count(what), 0);
        }
        check.due("status() of a new object", x.status(), 0);
        check.due("fault() of a new object", x.fault(), -1);
        check.due("size(0) of a new object", x.size(0), 0);
        check.due("mark(0, 0) of a new object", x.mark(0, 0), Check.NOTHING);
        check.due("of(0, 4) of a new object", x.of(0, 4), Check.NOTHING);
        check.due("send() of a new object", x.send(), 0);
        check.due("asOf(0, 0, -1) of a new object", x.asOf(0, 0, -1), 0);
        check.due("touched(0, 0) of a new object", x.touched(0, 0), 0);
        PaperRows full = Check.shaped("a{v}");
        full.row(0, 1, -1, -1);
        check.due("size(0) of another object", x.size(0), 0);
        check.due("count(1) of another object", x.count(1), 0);
    }

    private static void promise2Row() {
        PaperRows x = new PaperRows();
        check.told(x, "row(0, -1000, -1, -1)", x.row(0, -1000, -1, -1), 0, 0);
        check.told(x, "row(3, 1000, 0, -1)", x.row(3, 1000, 0, -1), 1, 0);
        check.told(x, "row(1, 0, 1, 0)", x.row(1, 0, 1, 0), 2, 0);
        check.told(x, "row(1, 0, 2, 2)", x.row(1, 0, 2, 2), 3, 0);
        check.due("of(2, 2)", x.of(2, 2), 1);
        check.due("of(2, 3)", x.of(2, 3), 0);
        check.due("count(4)", x.count(4), 4);
        // A gone row keeps its number.
        x.go(3);
        check.told(x, "row behind a gone one", x.row(2, 5, -1, 2), 4, 0);
    }

    private static void promise2RowIsRefusedInOrder() {
        PaperRows x = new PaperRows();
        check.told(x, "row(-1, 0, -1, -1)", x.row(-1, 0, -1, -1), -1, -1);
        check.told(x, "row(4, 0, -1, -1)", x.row(4, 0, -1, -1), -1, -1);
        check.told(x, "row(0, -1001, -1, -1)", x.row(0, -1001, -1, -1), -1, -1);
        check.told(x, "row(0, 1001, -1, -1)", x.row(0, 1001, -1, -1), -1, -1);
        check.told(x, "row(4, 0, 5, -1)", x.row(4, 0, 5, -1), -1, -1);
        check.told(x, "row to itself", x.row(0, 0, 0, -1), -2, -2);
        check.told(x, "row to itself by 1", x.row(0, 0, -1, 0), -2, -2);
        check.told(x, "row to -2", x.row(0, 0, -2, -1), -2, -2);
        check.told(x, "row to -5000", x.row(0, 0, -1, -5000), -2, -2);
        check.told(x, "row to 60", x.row(0, 0, -1, 60), -2, -2);
        check.due("count(1) when all were refused", x.count(1), 0);
        check.due("count(4) when all were refused", x.count(4), 0);
        x.row(0, 0, -1, -1);
        x.row(0, 0, -1, -1);
        x.go(0);
        check.told(x, "row to a gone one", x.row(0, 0, 0, -1), -2, -2);
        check.told(x, "row to a gone one by 1", x.row(0, 0, 1, 0), -2, -2);
    }

    private static void promise2SixtyRows() {
        PaperRows x = new PaperRows();
        for (int i = 0; i < 60; i++) {
            check.told(x, "row " + i, x.row(i % 4, i, i - 1, i / 2 - 1), i, 0);
        }
        check.told(x, "row 60", x.row(0, 0, -1, -1), -5, -5);
        check.told(x, "row 60 with no table", x.row(4, 0, -1, -1), -1, -1);
        check.told(x, "row 60 to 60", x.row(0, 0, 60, -1), -2, -2);
        x.go(7);
        check.told(x, "row 60 when one is gone", x.row(0, 0, -1, -1), -5, -5);
        check.due("count(0)", x.count(0), 59);
        check.due("count(1)", x.count(1), 60);
        check.due("count(4)", x.count(4), 61);
        check.due("of(59, 1)", x.of(59, 1), 59);
        check.due("of(60, 1)", x.of(60, 1), Check.NOTHING);
    }

    private static void promise3Value() {
        PaperRows x = new PaperRows();
        x.row(0, 5, -1, -1);
        check.told(x, "value(0, -1)", x.value(0, -1), 5, 0);
        check.told(x, "value(0, 1000) of -1", x.value(0, 1000), -1, 0);
        check.told(x, "value(0, -1000)", x.value(0, -1000), 1000, 0);
        check.told(x, "value(0, -1000) again", x.value(0, -1000), -1000, 0);
        check.due("count(4)", x.count(4), 5);
        check.told(x, "value(0, 1001)", x.value(0, 1001), -1, -1);
        check.told(x, "value(0, -1001)", x.value(0, -1001), -1, -1);
        check.told(x, "value(1, -1001)", x.value(1, -1001), -1, -1);
        check.told(x, "value(1, 0)", x.value(1, 0), -2, -2);
        check.told(x, "value(-1, 0)", x.value(-1, 0), -2, -2);
        check.due("of(0, 1)", x.of(0, 1), -1000);
        x.go(0);
        check.told(x, "value of a gone one", x.value(0, 0), -2, -2);
        check.due("count(4) behind refusals", x.count(4), 6);
    }

    private static void promise4Refer() {
        PaperRows x = new PaperRows();
        x.row(0, 0, -1, -1);
        x.row(1, 0, 0, -1);
        x.row(2, 0, -1, -1);
        check.told(x, "refer(0, 0, 1)", x.refer(0, 0, 1), 0, 0);
        check.told(x, "refer(0, 1, 0)", x.refer(0, 1, 0), 0, 0);
        check.due("of(0, 2)", x.of(0, 2), 1);
        check.due("of(0, 3)", x.of(0, 3), 0);
        check.told(x, "refer(0, 0, -1)", x.refer(0, 0, -1), 0, 0);
        check.due("of(0, 2) of none", x.of(0, 2), -1);
        check.due("of(0, 3) as it was", x.of(0, 3), 0);
        check.due("count(4)", x.count(4), 6);
        check.told(x, "refer(0, 2, 9)", x.refer(0, 2, 9), -1, -1);
        check.told(x, "refer(9, -1, 0)", x.refer(9, -1, 0), -1, -1);
        check.told(x, "refer(0, 0, 3)", x.refer(0, 0, 3), -2, -2);
        check.told(x, "refer(0, 0, -2)", x.refer(0, 0, -2), -2, -2);
        check.told(x, "refer(3, 0, 0)", x.refer(3, 0, 0), -2, -2);
        x.go(2);
        check.told(x, "refer to a gone one", x.refer(0, 0, 2), -2, -2);
        check.told(x, "refer of a gone one", x.refer(2, 0, 0), -2, -2);
        check.due("of(0, 2) behind refusals", x.of(0, 2), -1);
        check.due("count(4) behind refusals", x.count(4), 7);
    }

    private static void promise5Go() {
        PaperRows x = new PaperRows();
        x.row(0, 0, -1, -1);
        x.row(0, 0, 0, -1);
        check.told(x, "go(0)", x.go(0), 0, 0);
        check.told(x, "go(0) again", x.go(0), -2, -2);
        check.told(x, "go(2)", x.go(2), -2, -2);
        check.told(x, "go(-1)", x.go(-1), -2, -2);
        check.told(x, "go(60)", x.go(60), -2, -2);
        check.due("of(0, 4)", x.of(0, 4), 0);
        check.due("of(1, 4)", x.of(1, 4), 1);
        check.due("count(0)", x.count(0), 1);
        check.due("count(1)", x.count(1), 2);
        check.due("count(4)", x.count(4), 3);
    }

    private static void promise6Of() {
        PaperRows x = new PaperRows();
        x.row(0, 3, -1, -1);
        x.row(3, -7, 0, -1);
        x.row(2, 9, 0, 1);
        int[][] due = {{0, 3, -1, -1, 1}, {3, -7, 0, -1, 1}, {2, 9, 0, 1, 1}};
        for (int row = 0; row < 3; row++) {
            for (int what = 0; what < 5; what++) {
                check.due("of(" + row + ", " + what + ")", x.of(row, what), due[row][what]);
            }
            check.due("of(" + row + ", 5)", x.of(row, 5), Check.NOTHING);
            check.due("of(" + row + ", -1)", x.of(row, -1), Check.NOTHING);
        }
        check.due("of(3, 4)", x.of(3, 4), Check.NOTHING);
        check.due("of(-1, 4)", x.of(-1, 4), Check.NOTHING);
        x.go(0);
        check.due("of(1, 2) as it was told", x.of(1, 2), 0);
        x.go(2);
        int[] gone = {2, 9, 0, 1, 0};
        for (int what = 0; what < 5; what++) {
            check.due("of a gone row " + what, x.of(2, what), gone[what]);
        }
    }

    private static void promises2To5MomentsEnd() {
        PaperRows x = Check.shaped("a{v}");
        x.row(0, 0, -1, -1);
        for (int i = 1; i < 299; i++) {
            x.value(0, i);
        }
        x.reader(0);
        x.send();
        check.told(x, "the 300th moment", x.refer(0, 0, 0), 0, 0);
        check.due("count(4)", x.count(4), 300);
        check.told(x, "row at 300", x.row(0, 0, -1, -1), -5, -5);
        check.told(x, "value at 300", x.value(0, 1), -5, -5);
        check.told(x, "refer at 300", x.refer(0, 0, -1), -5, -5);
        check.told(x, "go at 300", x.go(0), -5, -5);
        check.told(x, "edit at 300", x.edit(0, 1, 1), -5, -5);
        check.told(x, "edit at 300 that can't be", x.edit(0, 0, 1), -3, -3);
        check.told(x, "value(9, 1) at 300", x.value(9, 1), -2, -2);
        check.told(x, "refer(0, 2, 0) at 300", x.refer(0, 2, 0), -1, -1);
        check.told(x, "go(9) at 300", x.go(9), -2, -2);
        check.told(x, "row(0, 0, 9, -1) at 300", x.row(0, 0, 9, -1), -2, -2);
        check.due("count(4) still", x.count(4), 300);
        check.due("of(0, 1) still", x.of(0, 1), 298);
        check.due("of(0, 2) still", x.of(0, 2), 0);
        check.due("of(0, 4) still", x.of(0, 4), 1);
        check.due("holds(0, 1) still", x.holds(0, 1), 298);
    }
}
