/** Promise 19: asOf. */
public final class MomentsTest {
    private static final Check check = new Check("MomentsTest");

    public static void main(String[] args) {
        promise19AsOf();
        promise19MomentsThatWereNot();
        promise19ShapeOfNow();
        promise19AllMoments();
        check.close();
    }

    private static void promise19AsOf() {
        PaperRows x = Check.shaped("a{v,down0b{v}}");
        x.row(0, 1, -1, -1);
        x.row(1, 2, -1, -1);
        x.refer(1, 0, 0);
        x.value(1, 3);
        x.value(1, 3);
        x.row(1, 4, 0, -1);
        x.go(1);
        x.refer(2, 0, -1);
        x.go(0);
        check.paperAsOf(x, 0, 0);
        check.paperAsOf(x, 1, 0, 10000, 1, 30000);
        check.paperAsOf(x, 2, 0, 10000, 1, 30000);
        check.paperAsOf(x, 3, 0, 10000, 1, 10001, 2, 30000, 30000);
        check.paperAsOf(x, 4, 0, 10000, 1, 10001, 3, 30000, 30000);
        check.paperAsOf(x, 5, 0, 10000, 1, 10001, 3, 30000, 30000);
        check.paperAsOf(x, 6, 0, 10000, 1, 10001, 3, 30000, 10002, 4, 30000, 30000);
        check.paperAsOf(x, 7, 0, 10000, 1, 10002, 4, 30000, 30000);
        check.paperAsOf(x, 8, 0, 10000, 1, 30000);
        check.paperAsOf(x, 9, 0);
        check.paperAsOf(x, 6, 1);
        check.paper(x, 0);
        check.due("of(0, 4) stays", x.of(0, 4), 0);
        check.due("count(4) stays", x.count(4), 9);
        check.due("status() stays", x.status(), 0);
    }

    private static void promise19MomentsThatWereNot() {
        PaperRows x = Check.shaped("a{v}");
        x.row(0, 1, -1, -1);
        x.value(0, 2);
        for (int moment : new int[] {-1, 3, 300, 301, Integer.MAX_VALUE, Integer.MIN_VALUE}) {
            check.paperAsOf(x, moment, 0);
        }
        for (int row : new int[] {-1, 1, 59, 60, Integer.MAX_VALUE, Integer.MIN_VALUE}) {
            check.paperAsOf(x, 2, row);
        }
        check.paperAsOf(x, 2, 0, 10000, 2, 30000);
        check.due("asOf far behind the end", x.asOf(2, 0, Integer.MAX_VALUE), Check.NOTHING);
        check.due("asOf far ahead of it", x.asOf(2, 0, Integer.MIN_VALUE), Check.NOTHING);
        // What was refused was no moment.
        x.value(0, 1001);
        x.refer(0, 3, 0);
        check.paperAsOf(x, 3, 0);
        x.row(0, 7, -1, -1);
        check.paperAsOf(x, 2, 1);
        check.paperAsOf(x, 3, 1, 10001, 7, 30000);
    }

    private static void promise19ShapeOfNow() {
        PaperRows x = new PaperRows();
        x.row(0, 1, -1, -1);
        x.row(1, 2, 0, -1);
        check.paperAsOf(x, 2, 0);
        Check.shape(x, "a{down0b}");
        check.paperAsOf(x, 1, 0, 10000, 30000);
        check.paperAsOf(x, 2, 0, 10000, 10001, 30000, 30000);
        Check.shape(x, "b{up0a{v}}");
        check.paperAsOf(x, 2, 0);
        check.paperAsOf(x, 2, 1, 10001, 10000, 1, 30000, 30000);
        Check.shape(x, "b{");
        check.paperAsOf(x, 2, 1, 10001, 10000, 1, 30000, 30000);
    }

    private static void promise19AllMoments() {
        for (int from = 1; from <= 301; from += 150) {
            PaperRows x = Check.shaped("a{v}");
            x.row(0, 0, -1, -1);
            for (int i = 1; i < 300; i++) {
                x.value(0, i);
            }
            for (int moment = from; moment < from + 150 && moment <= 300; moment++) {
                check.due("asOf(" + moment + ", 0, 1)", x.asOf(moment, 0, 1), moment - 1);
            }
            check.due("asOf(301, 0, -1)", x.asOf(301, 0, -1), 0);
        }
    }
}
