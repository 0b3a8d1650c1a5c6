/** Term III and promises 11 to 13: each sentence that names a bound, from both of its sides. */
public final class PaperBoundsTest {
    private static final Check check = new Check("PaperBoundsTest");
    private static final int LEAST = Integer.MIN_VALUE;
    private static final int MOST = Integer.MAX_VALUE;

    public static void main(String[] args) {
        emptyUnlessOfTheFirstTable();
        emptyWithoutShapeOrRow();
        numbersOfTheFirstAndTheLastRow();
        standsAlready();
        ringsOfOneAndOfMany();
        firstWhereItFirstBelongs();
        valuesOfAnySize();
        upWithNone();
        downInOrderOfNumbers();
        downWithNone();
        sevenPartsDeep();
        marks599And600And601();
        cutAtEachSortOfMark();
        cutOfTheLargest();
        whatIsCutOffStandsNowhere();
        promise12Nothing();
        promise13PagesOf1To100();
        promise13FirstAndLastPage();
        promise13PagesOf600();
        promise13Without();
        promise13PlacesInAPage();
        promise13NumbersBeyondAnInt();
        check.close();
    }

    private static String times(String text, int n) {
        StringBuilder all = new StringBuilder();
        for (int i = 0; i < n; i++) {
            all.append(text);
        }
        return all.toString();
    }

    // "(the ROW is there, and of the TABLE of its first PART; else it is empty)"
    private static void emptyUnlessOfTheFirstTable() {
        PaperRows x = new PaperRows();
        for (int table = 0; table < 4; table++) {
            x.row(table, table, -1, -1);
        }
        for (int table = 0; table < 4; table++) {
            String other = "bcda".substring(table, table + 1);
            Check.shape(x, "abcd".charAt(table) + "{v,up0" + other + "}");
            for (int row = 0; row < 4; row++) {
                if (row == table) {
                    check.paper(x, row, 10000 + row, row, 30000);
                } else {
                    check.paper(x, row);
                }
            }
        }
        x.go(3);
        check.paper(x, 3);
    }

    // promise 11: "(0 without SHAPE, ROW)"
    private static void emptyWithoutShapeOrRow() {
        PaperRows x = new PaperRows();
        x.row(0, 0, -1, -1);
        check.due("size(0) without a shape", x.size(0), 0);
        check.due("mark(0, 0) without a shape", x.mark(0, 0), Check.NOTHING);
        check.due("page(0, 1, 0, -1) without a shape", x.page(0, 1, 0, -1), 0);
        check.due("page(0, 1, 0, 0) without a shape", x.page(0, 1, 0, 0), Check.NOTHING);
        Check.shape(x, "a{");
        check.due("size(0) with a fault alone", x.size(0), 0);
        Check.shape(x, "a");
        check.due("size(0)", x.size(0), 2);
        for (int row : new int[] {-1, -2, 1, 59, 60, 64, LEAST, MOST}) {
            check.due("size(" + row + ")", x.size(row), 0);
            check.due("mark(" + row + ", 0)", x.mark(row, 0), Check.NOTHING);
            check.due("page(" + row + ", 1, 0, 0)", x.page(row, 1, 0, 0), Check.NOTHING);
            check.due("page(" + row + ", 1, 0, -1)", x.page(row, 1, 0, -1), 0);
        }
        x.go(0);
        check.due("size(0) of a gone row", x.size(0), 0);
        check.due("mark(0, 0) of a gone row", x.mark(0, 0), Check.NOTHING);
        check.due("page(0, 1, 0, -1) of a gone row", x.page(0, 1, 0, -1), 0);
    }

    // "20,000 and its number; else 10,000 and its number"
    private static void numbersOfTheFirstAndTheLastRow() {
        PaperRows x = Check.shaped("a{up0a{up0a,up1a},up1a{up1a}}");
        for (int i = 0; i < 60; i++) {
            x.row(0, i, -1, -1);
        }
        x.refer(0, 0, 59);
        x.refer(0, 1, 0);
        x.refer(59, 0, 0);
        x.refer(59, 1, 59);
        check.paper(x, 0, 10000, 10059, 20000, 20059, 30000, 20000, 30000);
        check.paper(x, 59, 10059, 10000, 20059, 20000, 30000, 20059, 30000);
        // Rows whose numbers are alike in their last five bits are not one another.
        x.refer(0, 0, 32);
        x.refer(0, 1, 31);
        check.paper(x, 0, 10000, 10032, 30000, 10031, 30000, 30000);
        x.refer(32, 0, 59);
        x.refer(31, 1, 27);
        check.paper(x, 0, 10000, 10032, 10059, 30000, 30000, 10031, 10027, 30000, 30000, 30000);
    }

    // "if the ROW stands (as a beginning) in the PAPER already"
    private static void standsAlready() {
        PaperRows x = Check.shaped("a{v,up0b{v},up1b{v,v},down0b{v,v,v}}");
        x.row(1, 5, -1, -1);
        x.row(0, 6, 0, 0);
        check.paper(x, 1, 10001, 6, 10000, 5, 30000, 20000, 30000);
        x.refer(0, 0, 1);
        check.paper(x, 1, 10001, 6, 10000, 5, 30000, 20000, 20000, 30000);
        x.refer(1, 0, -1);
        check.paper(x, 1, 10001, 6, 10000, 5, 5, 30000, 20000, 30000);
        x.refer(1, 1, -1);
        check.paper(x, 1, 10001, 6, 10000, 5, 5, 5, 30000, 30000);
        x.refer(0, 0, -1);
        check.paper(x, 1, 10001, 6, 30000);
        // A row stands even if it ended long ago, or has not ended yet.
        PaperRows y = Check.shaped("a{down0a{down0a{up1a},up1a},up1a}");
        y.row(0, 0, -1, -1);
        y.row(0, 0, 0, -1);
        y.row(0, 0, 1, 0);
        y.refer(1, 1, 2);
        y.refer(0, 1, 2);
        check.paper(y, 0, 10000, 10001, 10002, 20000, 30000, 20002, 30000, 20002, 30000);
    }

    // "each row once where it first belongs, rings cut"
    private static void ringsOfOneAndOfMany() {
        PaperRows one = Check.shaped("a{up0a{up0a},down0a,v}");
        one.row(0, 9, -1, -1);
        one.refer(0, 0, 0);
        check.paper(one, 0, 10000, 20000, 20000, 9, 30000);
        PaperRows many = Check.shaped(times("a{up0", 6) + "a" + times("}", 6));
        for (int rows = 1; rows <= 8; rows++) {
            many.row(0, 0, rows - 2, -1);
            many.refer(0, 0, rows - 1);
            int begun = Math.min(rows, 7);
            check.due("size(0) of a ring of " + rows, many.size(0), rows <= 6 ? 2 * rows + 1 : 14);
            check.due("the innermost of " + rows, many.mark(0, begun), rows <= 6 ? 20000 : 30000);
        }
    }

    // "each row once where it first belongs"
    private static void firstWhereItFirstBelongs() {
        PaperRows x = Check.shaped("a{down0b{v,up1c{v}},down0c{v,v}}");
        x.row(0, 1, -1, -1);
        x.row(2, 2, 0, -1);
        x.row(1, 3, 0, 1);
        check.paper(x, 0, 10000, 10002, 3, 10001, 2, 30000, 30000, 20001, 30000);
        Check.shape(x, "a{down0c{v,v},down0b{v,up1c{v}}}");
        check.paper(x, 0, 10000, 10001, 2, 2, 30000, 10002, 3, 20001, 30000, 30000);
        x.refer(2, 1, -1);
        check.paper(x, 0, 10000, 10001, 2, 2, 30000, 10002, 3, 30000, 30000);
    }

    // "v: its VALUE"
    private static void valuesOfAnySize() {
        PaperRows x = Check.shaped("a{v}");
        for (int value : new int[] {-1000, -999, -1, 0, 1, 999, 1000}) {
            int row = x.row(0, value, -1, -1);
            check.paper(x, row, 10000 + row, value, 30000);
        }
    }

    // "the ROW to which it refers by r, if there is one, it is there, and of the PART's TABLE"
    private static void upWithNone() {
        for (int r = 0; r <= 1; r++) {
            PaperRows x = Check.shaped("a{up" + r + "b{v}}");
            x.row(0, 0, -1, -1);
            x.row(1, 1, -1, -1);
            x.row(2, 2, -1, -1);
            x.row(0, 3, -1, -1);
            check.paper(x, 0, 10000, 30000);
            x.refer(0, r, 2);
            check.paper(x, 0, 10000, 30000);
            x.refer(0, r, 0);
            check.paper(x, 0, 10000, 30000);
            x.refer(0, 1 - r, 1);
            check.paper(x, 0, 10000, 30000);
            x.refer(0, r, 1);
            check.paper(x, 0, 10000, 10001, 1, 30000, 30000);
            x.go(1);
            check.paper(x, 0, 10000, 30000);
            check.due("of(0, " + (2 + r) + ") as it was told", x.of(0, 2 + r), 1);
        }
    }

    // "all ROWS of that TABLE that refer to it by r, in order of their numbers"
    private static void downInOrderOfNumbers() {
        PaperRows x = Check.shaped("a{down1a{v}}");
        for (int i = 0; i < 60; i++) {
            x.row(i % 2 * 2, i, -1, i == 0 ? -1 : 0);
        }
        check.due("size of 29 and itself", x.size(0), 2 + 29 * 3);
        for (int i = 0; i < 29; i++) {
            check.due("beginning " + i, x.mark(0, 1 + 3 * i), 10002 + 2 * i);
        }
        x.refer(0, 1, 0);
        check.due("itself comes first", x.mark(0, 1), 20000);
        check.due("size with itself", x.size(0), 3 + 29 * 3);
        // Told backwards, they still come forwards; the last row is above the first.
        PaperRows y = Check.shaped("b{down0a}");
        for (int i = 0; i < 60; i++) {
            y.row(i < 59 ? 0 : 1, i, -1, -1);
        }
        for (int i = 58; i >= 0; i--) {
            y.refer(i, 0, 59);
        }
        check.due("size of 59", y.size(59), 2 + 2 * 59);
        for (int i = 0; i < 59; i++) {
            check.due("beginning " + i, y.mark(59, 1 + 2 * i), 10000 + i);
        }
    }

    private static void downWithNone() {
        PaperRows x = Check.shaped("a{down0b{v},v}");
        x.row(0, 1, -1, -1);
        check.paper(x, 0, 10000, 1, 30000);
        x.row(1, 2, -1, 0);
        x.row(2, 3, 0, 0);
        x.row(0, 4, 0, 0);
        x.row(1, 5, 3, -1);
        check.paper(x, 0, 10000, 1, 30000);
        x.row(1, 6, 0, -1);
        check.paper(x, 0, 10000, 10005, 6, 30000, 1, 30000);
        x.go(5);
        check.paper(x, 0, 10000, 1, 30000);
    }

    private static void sevenPartsDeep() {
        PaperRows x = Check.shaped(times("a{v,down0", 6) + "a" + times("}", 6));
        for (int i = 0; i < 8; i++) {
            x.row(0, 100 + i, i - 1, -1);
        }
        check.paper(x, 0, 10000, 100, 10001, 101, 10002, 102, 10003, 103, 10004, 104, 10005, 105, 10006, 30000,
            30000, 30000, 30000, 30000, 30000, 30000);
        check.paper(x, 7, 10007, 107, 30000);
    }

    /** A paper that would have 590 marks and so many more: 49 rows of 12 marks stand ahead of the values. */
    private static PaperRows marksBehind(int more) {
        PaperRows x = Check.shaped("a{down0b{" + times("v,", 9) + "v}" + times(",v", more) + "}");
        x.row(0, 7, -1, -1);
        for (int i = 1; i <= 49; i++) {
            x.row(1, i, 0, -1);
        }
        return x;
    }

    // "A PAPER has at most 600 MARKS: what goes beyond is cut off."
    private static void marks599And600And601() {
        for (int more = 0; more <= 14; more++) {
            PaperRows x = marksBehind(more);
            int size = Math.min(600, 590 + more);
            check.due("size of " + (590 + more), x.size(0), size);
            check.due("last mark of " + (590 + more), x.mark(0, size - 1), more <= 10 ? 30000 : 7);
            check.due("mark behind it", x.mark(0, size), Check.NOTHING);
            check.due("asOf of " + (590 + more), x.asOf(50, 0, -1), size);
            check.due("asOf of its last mark", x.asOf(50, 0, size - 1), more <= 10 ? 30000 : 7);
            check.due("asOf behind it", x.asOf(50, 0, size), Check.NOTHING);
            x.reader(0);
            check.due("send of it", x.send(), 1);
            check.due("holds of it", x.holds(0, -1), size);
            check.due("holds of its last mark", x.holds(0, size - 1), more <= 10 ? 30000 : 7);
            check.due("holds behind it", x.holds(0, size), Check.NOTHING);
            check.due("same of it", x.same(0), 1);
        }
    }

    private static void cutAtEachSortOfMark() {
        // 589 marks and the values stand ahead of the last row's.
        for (int ahead = 5; ahead <= 11; ahead++) {
            PaperRows x = Check.shaped("a{" + times("v,", ahead) + "down0b{" + times("v,", 9) + "v},down0c{up1b,v}}");
            x.row(0, 7, -1, -1);
            for (int i = 1; i <= 49; i++) {
                x.row(1, i, 0, -1);
            }
            x.row(2, 8, 0, 1);
            int[] last = {10050, 20001, 8, 30000, 30000};
            int has = Math.min(600, 589 + ahead + 5);
            check.due("size with " + ahead, x.size(0), has);
            for (int i = 0; i < 5; i++) {
                int place = 589 + ahead + i;
                check.due("mark(0, " + place + ") with " + ahead, x.mark(0, place), place < 600 ? last[i] : Check.NOTHING);
            }
            check.due("the mark ahead of them", x.mark(0, 588 + ahead), 30000);
        }
    }

    private static void cutOfTheLargest() {
        PaperRows x = Check.shaped("a{" + times("v,", 40) + "down0a{" + times("v,", 48) + "v}}");
        for (int i = 0; i < 60; i++) {
            x.row(0, i, i == 0 ? -1 : 0, -1);
        }
        check.due("size of 3051", x.size(0), 600);
        check.due("mark(0, 599)", x.mark(0, 599), 11);
        check.due("mark(0, 600)", x.mark(0, 600), Check.NOTHING);
        check.due("mark(0, 3050)", x.mark(0, 3050), Check.NOTHING);
        // The paper that is asked for next is not cut by the one ahead of it.
        check.due("size(1)", x.size(1), 42);
        check.due("mark(1, 41)", x.mark(1, 41), 30000);
    }

    private static void whatIsCutOffStandsNowhere() {
        PaperRows x = marksBehind(12);
        x.reader(0);
        x.send();
        x.row(1, 0, 0, -1);
        check.due("a row more pushes the values out", x.size(0), 600);
        check.due("mark(0, 599) is its last", x.mark(0, 599), 0);
        check.due("mark(0, 598)", x.mark(0, 598), 0);
        check.due("same(0)", x.same(0), 0);
        check.due("touched(0, 8), whose value is cut off", x.touched(0, 8), 0);
        check.due("touched(50, 8)", x.touched(50, 8), 1);
        x.go(50);
        check.due("same(0) when it is gone", x.same(0), 1);
        check.due("touched(0, 8), whose value stands again", x.touched(0, 8), 1);
    }

    // promise 12: "NOTHING (-5000) without"
    private static void promise12Nothing() {
        PaperRows x = Check.shaped("a{v}");
        x.row(0, -1000, -1, -1);
        check.due("mark(0, 0)", x.mark(0, 0), 10000);
        check.due("mark(0, 1)", x.mark(0, 1), -1000);
        check.due("mark(0, 2)", x.mark(0, 2), 30000);
        for (int i : new int[] {-1, -2, 3, 4, 599, 600, 601, LEAST, MOST}) {
            check.due("mark(0, " + i + ")", x.mark(0, i), Check.NOTHING);
        }
    }

    private static void pages(PaperRows x, int size, int n) {
        int last = (size - 1) / n;
        check.due("page(0, " + n + ", last, -1)", x.page(0, n, last, -1), size - last * n);
        check.due("page(0, " + n + ", last, 0)", x.page(0, n, last, 0), x.mark(0, last * n));
        check.due("page(0, " + n + ", last, its last)", x.page(0, n, last, size - last * n - 1), x.mark(0, size - 1));
        check.due("page(0, " + n + ", last, behind it)", x.page(0, n, last, size - last * n), Check.NOTHING);
        check.due("page(0, " + n + ", last + 1, -1)", x.page(0, n, last + 1, -1), 0);
        check.due("page(0, " + n + ", last + 1, 0)", x.page(0, n, last + 1, 0), Check.NOTHING);
        check.due("page(0, " + n + ", 0, -1)", x.page(0, n, 0, -1), Math.min(n, size));
        check.due("page(0, " + n + ", 0, 0)", x.page(0, n, 0, 0), x.mark(0, 0));
        check.due("page(0, " + n + ", 0, n - 1)", x.page(0, n, 0, n - 1), x.mark(0, n - 1));
        check.due("page(0, " + n + ", 0, n)", x.page(0, n, 0, n), Check.NOTHING);
        check.due("page(0, " + n + ", 1, 0)", x.page(0, n, 1, 0), x.mark(0, n));
    }

    // "PAGES of n MARKS (1 .. 100)"
    private static void promise13PagesOf1To100() {
        for (int n = 1; n <= 100; n++) {
            pages(marksBehind(3), 593, n);
        }
        PaperRows x = marksBehind(3);
        for (int n : new int[] {0, -1, 101, -100, LEAST, MOST}) {
            check.due("page(0, " + n + ", 0, -1)", x.page(0, n, 0, -1), 0);
            check.due("page(0, " + n + ", 0, 0)", x.page(0, n, 0, 0), Check.NOTHING);
            check.due("page(0, " + n + ", 1, 0)", x.page(0, n, 1, 0), Check.NOTHING);
        }
    }

    // "page k has MARKS k n .. k n + n - 1, as there are."
    private static void promise13FirstAndLastPage() {
        int[] marks = {10002, 3, 10000, 1, 30000, 10001, 2, 30000, 30000};
        for (int n = 1; n <= 12; n++) {
            PaperRows x = Check.shaped("a{v,up0a{v},up1a{v}}");
            x.row(0, 1, -1, -1);
            x.row(0, 2, -1, -1);
            x.row(0, 3, 0, 1);
            check.paper(x, 2, marks);
            for (int k = -2; k <= 10; k++) {
                for (int i = -2; i <= 13; i++) {
                    int has = k < 0 ? 0 : Math.max(0, Math.min(n, 9 - k * n));
                    int want = i == -1 ? has : i >= 0 && i < has ? marks[k * n + i] : Check.NOTHING;
                    check.due("page(2, " + n + ", " + k + ", " + i + ")", x.page(2, n, k, i), want);
                }
            }
        }
    }

    private static void promise13PagesOf600() {
        for (int n = 1; n <= 100; n++) {
            pages(marksBehind(14), 600, n);
        }
        PaperRows x = marksBehind(14);
        check.due("page(0, 100, 5, -1)", x.page(0, 100, 5, -1), 100);
        check.due("page(0, 100, 5, 99)", x.page(0, 100, 5, 99), 7);
        check.due("page(0, 100, 6, -1)", x.page(0, 100, 6, -1), 0);
        check.due("page(0, 1, 599, 0)", x.page(0, 1, 599, 0), 7);
        check.due("page(0, 1, 600, 0)", x.page(0, 1, 600, 0), Check.NOTHING);
        check.due("page(0, 1, 600, -1)", x.page(0, 1, 600, -1), 0);
    }

    // "NOTHING; how many it has (i -1; 0 without)"
    private static void promise13Without() {
        PaperRows x = Check.shaped("a{v}");
        x.row(0, 5, -1, -1);
        x.row(1, 5, -1, -1);
        int[][] without = {{1, 5, 0}, {2, 5, 0}, {-1, 5, 0}, {60, 5, 0}, {LEAST, 5, 0}, {MOST, 5, 0}, {0, 5, -1}, {0, 5, 1}, {0, 3, 1},
            {0, 5, LEAST}, {0, 5, MOST}, {0, 0, 0}, {0, 101, 0}, {0, -1, 0}, {0, LEAST, 0}, {0, MOST, 0}, {0, -1, -1}, {0, 0, -1}};
        for (int[] one : without) {
            String call = "page(" + one[0] + ", " + one[1] + ", " + one[2] + ", ";
            check.due(call + "-1)", x.page(one[0], one[1], one[2], -1), 0);
            for (int i : new int[] {0, 1, -2, 100, LEAST, MOST}) {
                check.due(call + i + ")", x.page(one[0], one[1], one[2], i), Check.NOTHING);
            }
        }
        check.due("page(0, 3, 0, -1)", x.page(0, 3, 0, -1), 3);
        check.due("page(0, 2, 1, -1)", x.page(0, 2, 1, -1), 1);
    }

    private static void promise13PlacesInAPage() {
        PaperRows x = Check.shaped("a{v,v,v,v,v,v}");
        x.row(0, 5, -1, -1);
        for (int k = 0; k <= 1; k++) {
            check.due("page(0, 4, " + k + ", 0)", x.page(0, 4, k, 0), k == 0 ? 10000 : 5);
            check.due("page(0, 4, " + k + ", 3)", x.page(0, 4, k, 3), k == 0 ? 5 : 30000);
            for (int i : new int[] {4, 5, -2, -3, -4, LEAST, LEAST + 4, MOST, MOST - 3}) {
                check.due("page(0, 4, " + k + ", " + i + ")", x.page(0, 4, k, i), Check.NOTHING);
            }
        }
    }

    private static void promise13NumbersBeyondAnInt() {
        PaperRows x = Check.shaped("a{v,v,v,v,v,v}");
        x.row(0, 5, -1, -1);
        // k n runs over an int to a place that the paper has, or to one ahead of it.
        int[][] over = {{2, 1 << 30}, {4, 1 << 30}, {64, 1 << 26}, {100, 42949673}, {100, 85899346}, {3, 1431655766}, {5, 858993460},
            {2, MOST}, {100, MOST}, {99, MOST}, {16, 1 << 28}, {8, 1 << 29}, {1, MOST}, {1, LEAST}, {2, LEAST}, {100, LEAST}};
        for (int[] one : over) {
            String call = "page(0, " + one[0] + ", " + one[1] + ", ";
            check.due(call + "-1)", x.page(0, one[0], one[1], -1), 0);
            for (int i : new int[] {0, 1, 4, 7}) {
                check.due(call + i + ")", x.page(0, one[0], one[1], i), Check.NOTHING);
            }
        }
    }
}
