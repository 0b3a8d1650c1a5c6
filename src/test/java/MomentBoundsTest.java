/** Term V and promise 19: each sentence that names a bound, from both of its sides. */
public final class MomentBoundsTest {
    private static final Check check = new Check("MomentBoundsTest");
    private static final int LEAST = Integer.MIN_VALUE;
    private static final int MOST = Integer.MAX_VALUE;

    public static void main(String[] args) {
        moment0();
        firstAndLastMoment();
        moment300();
        momentsThatWereNot();
        rowsThatWereNot();
        rowsThatAreGone();
        refusedCallsAreNoMoments();
        shapeAsItIsNow();
        withoutAShape();
        howManyAndNothing();
        itChangesNothing();
        asOfTheMostRows();
        check.close();
    }

    // "0: nothing was told yet"
    private static void moment0() {
        PaperRows x = Check.shaped("a{v}");
        check.paperAsOf(x, 0, 0);
        x.row(0, 5, -1, -1);
        check.paperAsOf(x, 0, 0);
        check.paperAsOf(x, 0, -1);
        check.paperAsOf(x, 1, 0, 10000, 5, 30000);
        check.paperAsOf(x, -1, 0);
        check.paperAsOf(x, 2, 0);
    }

    // "ROWS as they were behind the first m of these"
    private static void firstAndLastMoment() {
        PaperRows x = Check.shaped("a{v,up0a{v},down1a{v}}");
        x.row(0, 1, -1, -1);
        x.row(0, 2, 0, -1);
        x.value(1, 3);
        x.refer(1, 0, -1);
        x.refer(1, 1, 0);
        x.reader(1);
        x.send();
        x.edit(0, 1, 4);
        x.go(1);
        check.paperAsOf(x, 1, 1);
        check.paperAsOf(x, 2, 1, 10001, 2, 10000, 1, 30000, 30000);
        check.paperAsOf(x, 3, 1, 10001, 3, 10000, 1, 30000, 30000);
        check.paperAsOf(x, 4, 1, 10001, 3, 30000);
        check.paperAsOf(x, 5, 0, 10000, 1, 10001, 3, 30000, 30000);
        check.paperAsOf(x, 6, 0, 10000, 1, 10001, 4, 30000, 30000);
        check.paperAsOf(x, 6, 1, 10001, 4, 30000);
        check.paperAsOf(x, 7, 0, 10000, 1, 30000);
        check.paperAsOf(x, 7, 1);
        check.paperAsOf(x, 8, 0);
    }

    private static void moment300() {
        PaperRows x = Check.shaped("a{v}");
        x.row(0, 0, -1, -1);
        for (int i = 1; i < 299; i++) {
            x.value(0, i);
        }
        check.paperAsOf(x, 299, 0, 10000, 298, 30000);
        check.paperAsOf(x, 300, 0);
        x.value(0, 299);
        check.paperAsOf(x, 298, 0, 10000, 297, 30000);
        check.paperAsOf(x, 299, 0, 10000, 298, 30000);
        check.paperAsOf(x, 300, 0, 10000, 299, 30000);
        check.paperAsOf(x, 301, 0);
        x.value(0, 7);
        check.paperAsOf(x, 300, 0, 10000, 299, 30000);
        check.paperAsOf(x, 301, 0);
        check.paperAsOf(x, 1, 0, 10000, 0, 30000);
        check.paperAsOf(x, 0, 0);
    }

    // "0 of MOMENTS, ROWS that weren't"
    private static void momentsThatWereNot() {
        PaperRows x = Check.shaped("a{v}");
        x.row(0, 5, -1, -1);
        x.value(0, 6);
        for (int moment : new int[] {-1, -2, 3, 4, 299, 300, 301, LEAST, MOST}) {
            check.paperAsOf(x, moment, 0);
        }
        check.paperAsOf(x, 2, 0, 10000, 6, 30000);
        x.row(0, 7, -1, -1);
        check.paperAsOf(x, 3, 0, 10000, 6, 30000);
        check.paperAsOf(x, 4, 0);
    }

    private static void rowsThatWereNot() {
        PaperRows x = Check.shaped("a{v}");
        x.row(0, 5, -1, -1);
        x.row(0, 6, -1, -1);
        for (int row : new int[] {-1, -2, 2, 59, 60, 61, LEAST, MOST}) {
            for (int moment = 0; moment <= 2; moment++) {
                check.paperAsOf(x, moment, row);
            }
        }
        check.paperAsOf(x, 1, 1);
        check.paperAsOf(x, 2, 1, 10001, 6, 30000);
        // What a row referred to then comes with it, what came later does not.
        Check.shape(x, "a{down0a}");
        x.row(0, 7, 0, -1);
        check.paperAsOf(x, 2, 0, 10000, 30000);
        check.paperAsOf(x, 3, 0, 10000, 10002, 30000, 30000);
    }

    private static void rowsThatAreGone() {
        PaperRows x = Check.shaped("a{v,down0b{v},up0b{v}}");
        x.row(0, 1, -1, -1);
        x.row(1, 2, 0, -1);
        x.go(0);
        x.go(1);
        check.paperAsOf(x, 2, 0, 10000, 1, 10001, 2, 30000, 30000);
        check.paperAsOf(x, 3, 0);
        check.paperAsOf(x, 4, 0);
        PaperRows y = Check.shaped("a{v,down0b{v},up1b{v}}");
        y.row(0, 1, -1, -1);
        y.row(1, 2, 0, -1);
        y.refer(0, 1, 1);
        y.go(1);
        check.paperAsOf(y, 2, 0, 10000, 1, 10001, 2, 30000, 30000);
        check.paperAsOf(y, 3, 0, 10000, 1, 10001, 2, 30000, 20001, 30000);
        check.paperAsOf(y, 4, 0, 10000, 1, 30000);
        check.due("of(1, 4) stays", y.of(1, 4), 0);
    }

    private static void refusedCallsAreNoMoments() {
        PaperRows x = Check.shaped("a{v}");
        x.row(0, 1, -1, -1);
        x.row(4, 0, -1, -1);
        x.value(0, 1001);
        x.refer(0, 2, 0);
        x.go(1);
        x.reader(0);
        x.edit(0, 1, 5);
        x.send();
        x.edit(0, 0, 5);
        check.paperAsOf(x, 2, 0);
        x.value(0, 2);
        check.paperAsOf(x, 1, 0, 10000, 1, 30000);
        check.paperAsOf(x, 2, 0, 10000, 2, 30000);
        check.paperAsOf(x, 3, 0);
        x.value(0, 2);
        check.paperAsOf(x, 3, 0, 10000, 2, 30000);
    }

    // "SHAPE as it is now"
    private static void shapeAsItIsNow() {
        PaperRows x = Check.shaped("a{v}");
        x.row(0, 1, -1, -1);
        x.row(1, 2, 0, -1);
        check.paperAsOf(x, 1, 0, 10000, 1, 30000);
        Check.shape(x, "b{up0a{v,v}}");
        check.paperAsOf(x, 1, 0);
        check.paperAsOf(x, 1, 1);
        check.paperAsOf(x, 2, 1, 10001, 10000, 1, 1, 30000, 30000);
        Check.shape(x, "b{up0a{v,v}");
        check.paperAsOf(x, 2, 1, 10001, 10000, 1, 1, 30000, 30000);
        Check.put(x, "a");
        check.paperAsOf(x, 2, 1, 10001, 10000, 1, 1, 30000, 30000);
        x.shape();
        check.paperAsOf(x, 2, 0, 10000, 30000);
    }

    private static void withoutAShape() {
        PaperRows x = new PaperRows();
        x.row(0, 1, -1, -1);
        check.paperAsOf(x, 0, 0);
        check.paperAsOf(x, 1, 0);
        Check.shape(x, "a?");
        check.paperAsOf(x, 1, 0);
        Check.shape(x, "a");
        check.paperAsOf(x, 1, 0, 10000, 30000);
    }

    // "MARK i ...; how many (i -1 ...). NOTHING."
    private static void howManyAndNothing() {
        PaperRows x = Check.shaped("a{v}");
        x.row(0, -1000, -1, -1);
        for (int i : new int[] {-2, -3, 3, 4, 599, 600, LEAST, MOST}) {
            check.due("asOf(1, 0, " + i + ")", x.asOf(1, 0, i), Check.NOTHING);
            check.due("asOf(0, 0, " + i + ")", x.asOf(0, 0, i), Check.NOTHING);
            check.due("asOf(2, 0, " + i + ")", x.asOf(2, 0, i), Check.NOTHING);
        }
        check.due("asOf(1, 0, -1)", x.asOf(1, 0, -1), 3);
        check.due("asOf(1, 0, 0)", x.asOf(1, 0, 0), 10000);
        check.due("asOf(1, 0, 1)", x.asOf(1, 0, 1), -1000);
        check.due("asOf(1, 0, 2)", x.asOf(1, 0, 2), 30000);
        check.due("asOf(0, 0, -1)", x.asOf(0, 0, -1), 0);
        check.due("asOf(0, 0, 0)", x.asOf(0, 0, 0), Check.NOTHING);
        check.due("asOf(2, 0, -1)", x.asOf(2, 0, -1), 0);
        check.due("asOf(2, 0, 0)", x.asOf(2, 0, 0), Check.NOTHING);
    }

    private static void itChangesNothing() {
        PaperRows x = Check.shaped("a{v}");
        x.row(0, 1, -1, -1);
        x.row(0, 2, -1, -1);
        x.value(0, 3);
        x.go(1);
        x.reader(0);
        x.send();
        check.told(x, "value refused", x.value(0, 1001), -1, -1);
        check.paperAsOf(x, 2, 0, 10000, 1, 30000);
        check.paperAsOf(x, 0, 0);
        check.paperAsOf(x, 99, 0);
        check.due("status() stays", x.status(), -1);
        check.due("of(0, 1) stays", x.of(0, 1), 3);
        check.due("of(1, 4) stays", x.of(1, 4), 0);
        check.due("count(0) stays", x.count(0), 1);
        check.due("count(1) stays", x.count(1), 2);
        check.due("count(4) stays", x.count(4), 4);
        check.due("same(0) stays", x.same(0), 1);
        check.paper(x, 0, 10000, 3, 30000);
        check.due("touched(0, 1), as it was", x.touched(0, 1), 1);
        check.due("touched(0, 3), as it is", x.touched(0, 3), 0);
        check.paperAsOf(x, 2, 1, 10001, 2, 30000);
    }

    private static void asOfTheMostRows() {
        PaperRows x = Check.shaped("a{down0a}");
        x.row(0, 0, -1, -1);
        for (int row = 1; row < 60; row++) {
            x.row(0, 0, 0, -1);
        }
        for (int moment = 0; moment <= 60; moment++) {
            check.due("asOf(" + moment + ", 0, -1)", x.asOf(moment, 0, -1), 2 * moment);
            check.due("asOf(" + moment + ", its last row, -1)", x.asOf(moment, moment - 1, -1), moment == 1 || moment == 0 ? 2 * moment : 2);
            check.due("asOf(" + moment + ", the row behind, -1)", x.asOf(moment, moment, -1), 0);
        }
        check.due("asOf(60, 59, 0)", x.asOf(60, 59, 0), 10059);
        check.due("asOf(60, 60, -1)", x.asOf(60, 60, -1), 0);
    }
}
