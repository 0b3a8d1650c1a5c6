/** Promises 11 to 13: size, mark, page, and what a paper is (III). */
public final class PaperTest {
    private static final Check check = new Check("PaperTest");

    public static void main(String[] args) {
        promises11And12NoPaper();
        promises11And12Values();
        promises11And12Up();
        promises11And12Down();
        promises11And12EachRowOnce();
        promises11And12GoneRows();
        promises11And12Deep();
        promises11And12CutOff();
        promise13Page();
        promise13LongPages();
        check.close();
    }

    private static void promises11And12NoPaper() {
        PaperRows x = new PaperRows();
        x.row(0, 1, -1, -1);
        check.paper(x, 0);
        Check.shape(x, "b{v}");
        check.paper(x, 0);
        x.row(1, 1, -1, -1);
        check.paper(x, 1, 10001, 1, 30000);
        check.paper(x, 2);
        check.paper(x, -1);
        check.paper(x, 60);
        check.paper(x, Integer.MAX_VALUE);
        check.paper(x, Integer.MIN_VALUE);
        check.due("mark(1, 2147483647)", x.mark(1, Integer.MAX_VALUE), Check.NOTHING);
        check.due("mark(1, -2147483648)", x.mark(1, Integer.MIN_VALUE), Check.NOTHING);
        check.due("status() behind papers", x.status(), 0);
    }

    private static void promises11And12Values() {
        PaperRows x = Check.shaped("d");
        x.row(3, 77, -1, -1);
        check.paper(x, 0, 10000, 30000);
        Check.shape(x, "d{v,v}");
        check.paper(x, 0, 10000, 77, 77, 30000);
        x.value(0, -1000);
        check.paper(x, 0, 10000, -1000, -1000, 30000);
    }

    private static void promises11And12Up() {
        PaperRows x = Check.shaped("a{up0b{v},v,up1c}");
        x.row(1, 10, -1, -1);
        x.row(2, 20, -1, -1);
        x.row(0, 30, 0, 1);
        check.paper(x, 2, 10002, 10000, 10, 30000, 30, 10001, 30000, 30000);
        x.refer(2, 0, 1);
        check.paper(x, 2, 10002, 30, 10001, 30000, 30000);
        x.refer(2, 1, -1);
        check.paper(x, 2, 10002, 30, 30000);
        x.refer(2, 1, 0);
        check.paper(x, 2, 10002, 30, 30000);
    }

    private static void promises11And12Down() {
        PaperRows x = Check.shaped("a{down1b{v},down0c{v}}");
        x.row(0, 0, -1, -1);
        x.row(1, 1, -1, -1);
        x.row(1, 2, 0, 0);
        x.row(2, 3, -1, 0);
        x.row(2, 4, 0, -1);
        x.row(1, 5, -1, 0);
        x.refer(1, 1, 0);
        // In the order of the numbers, not of the telling; only the table and the reference that are named.
        check.paper(x, 0, 10000, 10001, 1, 30000, 10002, 2, 30000, 10005, 5, 30000, 10004, 4, 30000, 30000);
        x.refer(2, 1, 1);
        check.paper(x, 0, 10000, 10001, 1, 30000, 10005, 5, 30000, 10004, 4, 30000, 30000);
    }

    private static void promises11And12EachRowOnce() {
        PaperRows x = Check.shaped("a{down0a{v,up0a{v}},up1a{v},v}");
        x.row(0, 1, -1, -1);
        x.row(0, 2, 0, -1);
        x.row(0, 3, 0, -1);
        x.refer(0, 0, 0);
        x.refer(0, 1, 2);
        check.paper(x, 0, 10000, 20000, 10001, 2, 20000, 30000, 10002, 3, 20000, 30000, 20002, 1, 30000);
        // A row that stands by another part stands all the same, and what stands is told just by its number.
        Check.shape(x, "a{up1a,down0a{v}}");
        check.paper(x, 0, 10000, 10002, 30000, 20000, 10001, 2, 30000, 20002, 30000);
        // A ring: 0 to 1 to 0.
        PaperRows ring = Check.shaped("a{up0a{up0a{up0a{v}}}}");
        ring.row(0, 1, -1, -1);
        ring.row(0, 2, 0, -1);
        ring.refer(0, 0, 1);
        check.paper(ring, 0, 10000, 10001, 20000, 30000, 30000);
        check.paper(ring, 1, 10001, 10000, 20001, 30000, 30000);
    }

    private static void promises11And12GoneRows() {
        PaperRows x = Check.shaped("a{v,up0b{v},down1b{v}}");
        x.row(1, 1, -1, -1);
        x.row(0, 2, 0, -1);
        x.row(1, 3, -1, 1);
        x.row(1, 4, -1, 1);
        check.paper(x, 1, 10001, 2, 10000, 1, 30000, 10002, 3, 30000, 10003, 4, 30000, 30000);
        x.go(2);
        check.paper(x, 1, 10001, 2, 10000, 1, 30000, 10003, 4, 30000, 30000);
        x.go(0);
        check.paper(x, 1, 10001, 2, 10003, 4, 30000, 30000);
        x.go(1);
        check.paper(x, 1);
    }

    private static void promises11And12Deep() {
        PaperRows x = Check.shaped("a{v,up0a{v,up0a{v,up0a{v,up0a{v,up0a{v,up0a}}}}}}");
        for (int i = 0; i < 8; i++) {
            x.row(0, i, i - 1, -1);
        }
        check.paper(x, 7, 10007, 7, 10006, 6, 10005, 5, 10004, 4, 10003, 3, 10002, 2, 10001, 30000,
            30000, 30000, 30000, 30000, 30000, 30000);
    }

    /** Row 0 with its value seven times, and as many rows below as there are, of 12 marks each. */
    private static PaperRows big(int below) {
        PaperRows x = Check.shaped("a{v,v,v,v,v,v,v,down0b{v,v,v,v,v,v,v,v,v,v}}");
        x.row(0, 7, -1, -1);
        for (int i = 1; i <= below; i++) {
            x.row(1, i, 0, -1);
        }
        return x;
    }

    private static void promises11And12CutOff() {
        PaperRows x = big(49);
        check.due("size below the most", x.size(0), 597);
        check.due("mark(0, 596)", x.mark(0, 596), 30000);
        x = big(50);
        check.due("size of more", x.size(0), 600);
        check.due("mark(0, 596) of more", x.mark(0, 596), 10050);
        check.due("mark(0, 599) of more", x.mark(0, 599), 50);
        check.due("mark(0, 600) of more", x.mark(0, 600), Check.NOTHING);
        x = big(59);
        check.due("size of 717", x.size(0), 600);
        check.due("mark(0, 595) of 717", x.mark(0, 595), 30000);
        check.due("mark(0, 599) of 717", x.mark(0, 599), 50);
        x.reader(0);
        check.due("send of 717", x.send(), 1);
        check.due("holds of 717", x.holds(0, -1), 600);
        check.due("touched behind the cut", x.touched(51, 0), 0);
        check.due("touched ahead of the cut", x.touched(50, 0), 1);
        x.value(51, 0);
        check.due("same behind the cut", x.same(0), 1);
        check.due("edit of the last mark", x.edit(0, 599, -5), 50);
        check.due("edit of an end", x.edit(0, 595, -5), -3);
        check.due("edit behind the cut", x.edit(0, 600, -5), -3);
        // Exactly 600 marks: none is missing, none too many.
        PaperRows y = Check.shaped("a{down0b{v,v,v,v,v,v,v,v},down0b}");
        y.row(0, 0, -1, -1);
        for (int i = 1; i <= 54; i++) {
            y.row(1, i, 0, -1);
        }
        check.due("size of 596", y.size(0), 2 + 54 * 11);
        Check.shape(y, "a{v,v,v,v,down0b{v,v,v,v,v,v,v,v,v},down1b}");
        check.due("size of just 600", y.size(0), 600);
        check.due("mark(0, 599) of just 600", y.mark(0, 599), 30000);
        y.refer(54, 1, 0);
        check.due("size of 601", y.size(0), 600);
        check.due("mark(0, 599) of 601", y.mark(0, 599), 20054);
    }

    private static PaperRows of7Marks() {
        PaperRows x = Check.shaped("a{v,v,v,v,v}");
        x.row(0, 5, -1, -1);
        return x;
    }

    private static void promise13Page() {
        int[] marks = {10000, 5, 5, 5, 5, 5, 30000};
        for (int n = 1; n <= 100; n++) {
            PaperRows x = of7Marks();
            for (int k = 0; k < 9; k++) {
                int has = Math.max(0, Math.min(n, 7 - k * n));
                check.due("page(0, " + n + ", " + k + ", -1)", x.page(0, n, k, -1), has);
                for (int i = 0; i < 9; i++) {
                    int want = i < has ? marks[k * n + i] : Check.NOTHING;
                    check.due("page(0, " + n + ", " + k + ", " + i + ")", x.page(0, n, k, i), want);
                }
            }
        }
        PaperRows x = of7Marks();
        int[][] without = {{0, 0, 0}, {0, -1, 0}, {0, 101, 0}, {0, 5, -1}, {1, 5, 0}, {-1, 5, 0}, {0, 7, 1},
            {0, Integer.MIN_VALUE, 0}, {0, 5, Integer.MIN_VALUE}, {0, 100, Integer.MAX_VALUE}, {0, 64, 1 << 26}, {0, 2, 1 << 31}, {60, 5, 0}};
        for (int[] one : without) {
            String call = "page(" + one[0] + ", " + one[1] + ", " + one[2] + ", ";
            check.due(call + "-1)", x.page(one[0], one[1], one[2], -1), 0);
            check.due(call + "0)", x.page(one[0], one[1], one[2], 0), Check.NOTHING);
        }
        check.due("page(0, 5, 0, -2)", x.page(0, 5, 0, -2), Check.NOTHING);
        check.due("page(0, 5, 1, -2)", x.page(0, 5, 1, -2), Check.NOTHING);
        check.due("page(0, 5, 0, 2147483647)", x.page(0, 5, 0, Integer.MAX_VALUE), Check.NOTHING);
        check.due("page(0, 5, 1, 2147483647)", x.page(0, 5, 1, Integer.MAX_VALUE), Check.NOTHING);
        check.due("page(0, 5, 0, -2147483648)", x.page(0, 5, 0, Integer.MIN_VALUE), Check.NOTHING);
    }

    private static void promise13LongPages() {
        PaperRows x = big(59);
        check.due("page(0, 100, 5, -1)", x.page(0, 100, 5, -1), 100);
        check.due("page(0, 100, 5, 99)", x.page(0, 100, 5, 99), 50);
        check.due("page(0, 100, 6, -1)", x.page(0, 100, 6, -1), 0);
        check.due("page(0, 99, 6, -1)", x.page(0, 99, 6, -1), 6);
        check.due("page(0, 99, 6, 5)", x.page(0, 99, 6, 5), 50);
        check.due("page(0, 99, 6, 6)", x.page(0, 99, 6, 6), Check.NOTHING);
    }
}
