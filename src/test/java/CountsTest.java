/** Promises 21 and 22: count, status. */
public final class CountsTest {
    private static final Check check = new Check("CountsTest");

    public static void main(String[] args) {
        promise21Count();
        promise22Status();
        check.close();
    }

    private static void counts(PaperRows x, int... want) {
        for (int what = 0; what < want.length; what++) {
            check.due("count(" + what + ")", x.count(what), want[what]);
        }
        for (int what : new int[] {-1, 7, Integer.MAX_VALUE, Integer.MIN_VALUE}) {
            check.due("count(" + what + ")", x.count(what), -1);
        }
    }

    private static void promise21Count() {
        PaperRows x = new PaperRows();
        counts(x, 0, 0, 0, 0, 0, 0, 0);
        x.feed(0x617b767d, 0x20202020, 0, 0, 0);
        counts(x, 0, 0, 0, 0, 0, 20, 0);
        x.end(8);
        counts(x, 0, 0, 0, 0, 0, 8, 0);
        x.shape();
        counts(x, 0, 0, 1, 0, 0, 0, 0);
        x.row(0, 1, -1, -1);
        x.row(0, 2, 0, -1);
        x.row(1, 3, 0, -1);
        counts(x, 3, 3, 1, 0, 3, 0, 0);
        x.reader(0);
        x.reader(1);
        counts(x, 3, 3, 1, 2, 3, 0, 0);
        x.send();
        counts(x, 3, 3, 1, 2, 3, 0, 2);
        x.edit(0, 1, 5);
        x.send();
        counts(x, 3, 3, 1, 2, 4, 0, 2);
        x.go(2);
        x.refer(1, 0, -1);
        x.value(1, 2);
        x.send();
        counts(x, 2, 3, 1, 2, 7, 0, 2);
        x.value(1, 4);
        x.send();
        counts(x, 2, 3, 1, 2, 8, 0, 3);
        x.row(9, 0, 0, 0);
        x.value(0, 5000);
        x.refer(0, 7, 0);
        x.go(2);
        x.reader(2);
        x.edit(0, 0, 0);
        Check.shape(x, "?");
        counts(x, 2, 3, 1, 2, 8, 0, 3);
        Check.shape(x, "b{up0a{v},up1a}");
        counts(x, 2, 3, 3, 2, 8, 0, 3);
    }

    private static void promise22Status() {
        PaperRows x = new PaperRows();
        check.due("status() ahead of any", x.status(), 0);
        check.told(x, "row refused", x.row(4, 0, -1, -1), -1, -1);
        // What is not named there leaves it as it is.
        x.of(0, 0);
        x.feed(0x617b767d, 0, 0, 0, 0);
        x.end(4);
        x.end(99);
        x.fault();
        x.size(0);
        x.mark(0, 0);
        x.page(0, 0, 0, 0);
        x.send();
        x.holds(0, 0);
        x.same(0);
        x.asOf(0, 0, 0);
        x.touched(0, 0);
        x.count(9);
        check.due("status() behind all others", x.status(), -1);
        check.due("status() again", x.status(), -1);
        check.told(x, "shape", x.shape(), 1, 0);
        x.of(0, 0);
        x.end(99);
        x.holds(0, 0);
        x.same(5);
        check.due("status() 0 behind all others", x.status(), 0);
        check.told(x, "value refused", x.value(0, 0), -2, -2);
        check.told(x, "row", x.row(0, 0, -1, -1), 0, 0);
        check.told(x, "refer refused", x.refer(0, 2, 0), -1, -1);
        check.told(x, "refer", x.refer(0, 1, 0), 0, 0);
        check.told(x, "reader refused", x.reader(3), -2, -2);
        check.told(x, "reader", x.reader(0), 0, 0);
        check.told(x, "edit refused", x.edit(0, 1, 0), -3, -3);
        x.send();
        check.due("status() behind send()", x.status(), -3);
        check.told(x, "edit", x.edit(0, 1, -6), 0, 0);
        check.told(x, "shape refused", x.shape(), -6, -6);
        // The old value is one of the refusals' numbers; only the status tells them apart.
        check.told(x, "value of -6", x.value(0, -2), -6, 0);
        check.told(x, "value of -2", x.value(0, -5), -2, 0);
        check.told(x, "value of -5", x.value(0, 0), -5, 0);
        check.told(x, "go refused", x.go(1), -2, -2);
        check.told(x, "go", x.go(0), 0, 0);
    }
}
