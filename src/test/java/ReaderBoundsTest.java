/** Term IV and promises 14 to 18 and 20: each sentence that names a bound, from both of its sides. */
public final class ReaderBoundsTest {
    private static final Check check = new Check("ReaderBoundsTest");
    private static final int LEAST = Integer.MIN_VALUE;
    private static final int MOST = Integer.MAX_VALUE;
    private static final int[] NO_READERS = {-1, -2, 10, 11, 31, 32, LEAST, MOST};

    public static void main(String[] args) {
        readers0To9();
        emptyAtFirst();
        sentIfItIsNotWhatItHolds();
        sentAnEmptyPaper();
        sentOfTheSameLength();
        sentAPaperThatGoesOnOrStopsShort();
        sentToEachByItself();
        sentOf600Marks();
        editOfWhatIsNoValue();
        editOfAGoneRow();
        editOfAValueThatIsNotHeld();
        editBehindRowsThatStandAlready();
        editMakesOneMarkOtherwise();
        editAtTheCut();
        editIsRefusedInOrder();
        promise14NoSuchRow();
        promise15Bits();
        promise16HowMany();
        promise17None();
        promise20Bits();
        promise20WhateverTheyHold();
        promise20Without();
        promise20AtTheCut();
        check.close();
    }

    private static String times(String text, int n) {
        StringBuilder all = new StringBuilder();
        for (int i = 0; i < n; i++) {
            all.append(text);
        }
        return all.toString();
    }

    // "READERS 0 .. 9 (10 at most)", promise 14: "-5"
    private static void readers0To9() {
        PaperRows x = Check.shaped("a{v}");
        x.row(0, 7, -1, -1);
        for (int reader = 0; reader < 10; reader++) {
            check.due("same(" + reader + ") ahead of it", x.same(reader), -1);
            check.due("holds(" + reader + ", -1) ahead of it", x.holds(reader, -1), Check.NOTHING);
            check.told(x, "edit of none", x.edit(reader, 1, 0), -2, -2);
            check.told(x, "reader " + reader, x.reader(0), reader, 0);
            check.due("same(" + reader + ")", x.same(reader), 0);
            check.due("holds(" + reader + ", -1)", x.holds(reader, -1), 0);
        }
        check.told(x, "the 11th reader", x.reader(0), -5, -5);
        check.due("count(3)", x.count(3), 10);
        check.due("send() to ten", x.send(), 1023);
        check.due("holds(9, 1)", x.holds(9, 1), 7);
        check.told(x, "edit(9, 1, 8)", x.edit(9, 1, 8), 0, 0);
        for (int reader : NO_READERS) {
            check.due("same(" + reader + ")", x.same(reader), -1);
            check.due("holds(" + reader + ", -1)", x.holds(reader, -1), Check.NOTHING);
            check.due("holds(" + reader + ", 0)", x.holds(reader, 0), Check.NOTHING);
            check.told(x, "edit(" + reader + ", 1, 8)", x.edit(reader, 1, 8), -2, -2);
        }
        // Ten at most, also when the row of one is gone.
        x.row(0, 1, -1, -1);
        x.go(0);
        check.told(x, "the 11th reader of another row", x.reader(1), -5, -5);
        check.due("count(3) stays", x.count(3), 10);
    }

    // "(empty at first)"
    private static void emptyAtFirst() {
        PaperRows x = Check.shaped("a{v}");
        x.row(0, 7, -1, -1);
        x.reader(0);
        x.send();
        x.reader(0);
        check.held(x, 0, 10000, 7, 30000);
        check.held(x, 1);
        check.due("same(1)", x.same(1), 0);
        check.told(x, "edit of an empty one", x.edit(1, 1, 0), -3, -3);
        check.due("send() to the new one alone", x.send(), 2);
        check.held(x, 1, 10000, 7, 30000);
    }

    // "SENT: to each READER, if the PAPER by now is not what it holds: it holds that then."
    private static void sentIfItIsNotWhatItHolds() {
        PaperRows x = Check.shaped("a{v}");
        x.row(0, 7, -1, -1);
        x.reader(0);
        check.due("send()", x.send(), 1);
        check.due("send() again", x.send(), 0);
        x.value(0, 7);
        x.refer(0, 0, 0);
        x.row(0, 1, 0, 0);
        check.due("send() of what it holds", x.send(), 0);
        x.value(0, 8);
        check.due("holds(0, 1) ahead of send()", x.holds(0, 1), 7);
        x.value(0, 7);
        check.due("send() of what it holds again", x.send(), 0);
        x.value(0, 8);
        check.due("send() of another", x.send(), 1);
        check.due("holds(0, 1)", x.holds(0, 1), 8);
        check.due("count(6)", x.count(6), 2);
        x.edit(0, 1, 9);
        check.due("send() behind its edit", x.send(), 0);
        x.value(0, 8);
        check.due("send() of what it held ahead of its edit", x.send(), 1);
        Check.shape(x, " a { v } ");
        check.due("send() by a shape that says the same", x.send(), 0);
        check.due("count(6) behind it", x.count(6), 3);
    }

    private static void sentAnEmptyPaper() {
        PaperRows x = new PaperRows();
        x.row(0, 7, -1, -1);
        x.reader(0);
        check.due("same(0) without a shape", x.same(0), 1);
        check.due("send() without a shape", x.send(), 0);
        Check.shape(x, "b");
        check.due("same(0) of another table", x.same(0), 1);
        check.due("send() of another table", x.send(), 0);
        Check.shape(x, "a");
        check.due("send() of its table", x.send(), 1);
        check.held(x, 0, 10000, 30000);
        Check.shape(x, "b");
        check.due("same(0) of another table now", x.same(0), 0);
        check.due("send() of an empty one", x.send(), 1);
        check.held(x, 0);
        check.due("same(0) of an empty one", x.same(0), 1);
        check.due("send() of an empty one again", x.send(), 0);
        Check.shape(x, "a");
        x.send();
        x.go(0);
        check.due("same(0) of a gone one", x.same(0), 0);
        check.due("send() of a gone one", x.send(), 1);
        check.held(x, 0);
        check.due("send() of a gone one again", x.send(), 0);
        check.due("count(6)", x.count(6), 4);
    }

    private static void sentOfTheSameLength() {
        PaperRows x = Check.shaped("a{v,up0b,v,up1a}");
        x.row(1, 0, -1, -1);
        x.row(1, 0, -1, -1);
        x.row(0, 1, 0, -1);
        x.reader(2);
        check.due("send()", x.send(), 1);
        x.refer(2, 0, 1);
        check.due("same(0) with another row within", x.same(0), 0);
        check.due("send() with another row within", x.send(), 1);
        check.held(x, 0, 10002, 1, 10001, 30000, 1, 30000);
        // First, last but one, and a mark between them.
        Check.shape(x, "a{v,up0b,v,v}");
        x.send();
        Check.shape(x, "a{v,up0b,v,up1a}");
        x.refer(2, 1, 2);
        check.due("size(2) is the same", x.size(2), x.holds(0, -1));
        check.due("same(0) with another mark near the end", x.same(0), 0);
        check.due("send() with it", x.send(), 1);
        check.held(x, 0, 10002, 1, 10001, 30000, 1, 20002, 30000);
    }

    private static void sentAPaperThatGoesOnOrStopsShort() {
        PaperRows x = Check.shaped("a{up0b,up1b}");
        x.row(1, 0, -1, -1);
        x.row(1, 0, -1, -1);
        x.row(0, 0, 0, 1);
        x.reader(2);
        x.send();
        int[] long0 = {10002, 10000, 30000, 10001, 30000, 30000};
        check.held(x, 0, long0);
        x.refer(2, 1, -1);
        check.due("same(0) of a shorter one", x.same(0), 0);
        check.due("send() of a shorter one", x.send(), 1);
        check.held(x, 0, 10002, 10000, 30000, 30000);
        x.refer(2, 1, 1);
        check.due("same(0) of a longer one", x.same(0), 0);
        check.due("send() of a longer one", x.send(), 1);
        check.held(x, 0, long0);
    }

    private static void sentToEachByItself() {
        PaperRows x = Check.shaped("a{v}");
        for (int i = 0; i < 10; i++) {
            x.row(0, i, -1, -1);
            x.reader(i);
        }
        check.due("send() to all", x.send(), 1023);
        for (int i = 0; i < 10; i++) {
            x.value(i, 100);
            check.due("send() to " + i, x.send(), 1 << i);
            check.due("count(6) behind " + i, x.count(6), 11 + i);
            check.due("holds(" + i + ", 1)", x.holds(i, 1), 100);
        }
        x.value(0, 3);
        x.value(9, 3);
        check.due("send() to the first and the last", x.send(), 513);
        check.due("count(6)", x.count(6), 22);
    }

    /** A paper of just 600 marks: ten ahead, 48 rows of 12 marks, then values up to the end. */
    private static PaperRows of600Marks() {
        PaperRows x = Check.shaped("a{" + times("v,", 9) + "down0b{" + times("v,", 9) + "v}" + times(",v", 13) + "}");
        x.row(0, 7, -1, -1);
        for (int i = 1; i <= 48; i++) {
            x.row(1, i, 0, -1);
        }
        x.reader(0);
        return x;
    }

    private static void sentOf600Marks() {
        PaperRows x = of600Marks();
        check.due("size(0)", x.size(0), 600);
        check.due("send()", x.send(), 1);
        check.due("holds(0, -1)", x.holds(0, -1), 600);
        check.due("holds(0, 599)", x.holds(0, 599), 30000);
        check.due("holds(0, 600)", x.holds(0, 600), Check.NOTHING);
        check.due("send() again", x.send(), 0);
        Check.shape(x, "a{" + times("v,", 9) + "down0b{" + times("v,", 9) + "v}" + times(",v", 14) + "}");
        check.due("same(0) with another last mark alone", x.same(0), 0);
        check.due("send() with another last mark alone", x.send(), 1);
        check.due("holds(0, 599) of it", x.holds(0, 599), 7);
        Check.shape(x, "a{" + times("v,", 9) + "down0b{" + times("v,", 9) + "v}" + times(",v", 15) + "}");
        check.due("same(0) with more that is cut off", x.same(0), 1);
        check.due("send() with more that is cut off", x.send(), 0);
    }

    // "it can't be, if MARK i is no VALUE (of a "v")"
    private static void editOfWhatIsNoValue() {
        PaperRows x = Check.shaped("a{v,up0b{v},up1b}");
        x.row(1, -1000, -1, -1);
        x.row(0, 1000, 0, 0);
        x.reader(1);
        check.told(x, "edit of nothing", x.edit(0, 0, 0), -3, -3);
        x.send();
        check.held(x, 0, 10001, 1000, 10000, -1000, 30000, 20000, 30000);
        for (int i : new int[] {-1, -2, 0, 2, 4, 5, 6, 7, 8, 599, 600, 601, LEAST, MOST}) {
            check.told(x, "edit(0, " + i + ", 5)", x.edit(0, i, 5), -3, -3);
        }
        check.due("count(4) stays", x.count(4), 2);
        check.held(x, 0, 10001, 1000, 10000, -1000, 30000, 20000, 30000);
        check.told(x, "edit(0, 1, -1000)", x.edit(0, 1, -1000), 1, 0);
        check.told(x, "edit(0, 3, 1000)", x.edit(0, 3, 1000), 0, 0);
        check.held(x, 0, 10001, -1000, 10000, 1000, 30000, 20000, 30000);
    }

    // "or that ROW is gone"
    private static void editOfAGoneRow() {
        PaperRows x = Check.shaped("a{v,up0b{v},v}");
        x.row(1, 4, -1, -1);
        x.row(0, 5, 0, -1);
        x.reader(1);
        x.send();
        x.go(0);
        check.told(x, "edit within the gone one", x.edit(0, 3, 6), -3, -3);
        check.told(x, "edit ahead of it", x.edit(0, 1, 5), 1, 0);
        check.told(x, "edit behind it", x.edit(0, 5, 6), 1, 0);
        x.go(1);
        check.told(x, "edit within the other", x.edit(0, 5, 7), -3, -3);
        check.held(x, 0, 10001, 5, 10000, 4, 30000, 6, 30000);
        check.due("of(0, 1) stays", x.of(0, 1), 4);
        check.due("of(1, 1) stays", x.of(1, 1), 6);
        check.due("count(4)", x.count(4), 6);
    }

    // "or its VALUE is not what the READER holds"
    private static void editOfAValueThatIsNotHeld() {
        PaperRows x = Check.shaped("a{v}");
        x.row(0, 5, -1, -1);
        x.reader(0);
        x.reader(0);
        x.send();
        for (int value : new int[] {4, 6, -5, 1000, -1000, 0}) {
            x.value(0, value);
            check.told(x, "edit of 5 at " + value, x.edit(0, 1, 7), -3, -3);
            check.told(x, "edit of 5 to " + value, x.edit(0, 1, value), -3, -3);
            check.due("holds(0, 1) stays", x.holds(0, 1), 5);
            check.due("of(0, 1) stays", x.of(0, 1), value);
        }
        x.value(0, 5);
        check.told(x, "edit of 5 at 5", x.edit(0, 1, 7), 0, 0);
        check.told(x, "the other's edit of 5", x.edit(1, 1, 8), -3, -3);
        check.due("send() to the other", x.send(), 2);
        check.told(x, "the other's edit of 7", x.edit(1, 1, 8), 0, 0);
        check.told(x, "the first one's edit of 7", x.edit(0, 1, 9), -3, -3);
    }

    // What stands already (20,000 .. 20,059) begins no row: the value behind it is of the row around it.
    private static void editBehindRowsThatStandAlready() {
        PaperRows x = Check.shaped("a{up0a,v,up1a{v,up0a,v,up1a,v},v}");
        for (int i = 0; i < 60; i++) {
            x.row(0, i, i == 0 ? -1 : 0, -1);
        }
        x.refer(0, 0, 0);
        x.refer(0, 1, 59);
        x.refer(59, 1, 59);
        x.reader(0);
        x.send();
        check.held(x, 0, 10000, 20000, 0, 10059, 59, 20000, 59, 20059, 59, 30000, 0, 30000);
        check.told(x, "edit behind 20000", x.edit(0, 2, 100), 0, 0);
        x.value(0, 0);
        check.told(x, "edit behind an end", x.edit(0, 10, 101), 0, 0);
        check.told(x, "edit behind a beginning", x.edit(0, 4, 102), 59, 0);
        x.value(59, 59);
        check.told(x, "edit behind 20000 within", x.edit(0, 6, 103), 59, 0);
        x.value(59, 59);
        check.told(x, "edit behind 20059 within", x.edit(0, 8, 104), 59, 0);
        check.held(x, 0, 10000, 20000, 100, 10059, 102, 20000, 103, 20059, 104, 30000, 101, 30000);
        check.due("of(0, 1)", x.of(0, 1), 101);
        check.due("of(59, 1)", x.of(59, 1), 104);
    }

    // "Else the ROW's VALUE becomes that, and MARK i of what the READER holds as well."
    private static void editMakesOneMarkOtherwise() {
        PaperRows x = Check.shaped("a{v,v,down0a{v},v}");
        x.row(0, 5, -1, -1);
        x.row(0, 5, 0, -1);
        x.reader(0);
        x.reader(1);
        x.send();
        check.told(x, "edit(0, 2, 6)", x.edit(0, 2, 6), 0, 0);
        check.held(x, 0, 10000, 5, 6, 10001, 5, 30000, 5, 30000);
        check.held(x, 1, 10001, 5, 5, 5, 30000);
        check.paper(x, 0, 10000, 6, 6, 10001, 5, 30000, 6, 30000);
        check.due("same(0)", x.same(0), 0);
        check.told(x, "edit of a mark that stayed", x.edit(0, 1, 7), -3, -3);
        check.told(x, "edit of the mark again", x.edit(0, 2, 5), 0, 0);
        check.due("same(0) again", x.same(0), 1);
        check.told(x, "edit of the last value", x.edit(0, 6, 8), 0, 0);
        check.told(x, "edit of a value within", x.edit(0, 4, 9), 1, 0);
        check.held(x, 0, 10000, 5, 5, 10001, 9, 30000, 8, 30000);
        check.due("an edit is sent to nobody", x.count(6), 2);
        check.due("send()", x.send(), 3);
    }

    private static void editAtTheCut() {
        PaperRows x = of600Marks();
        x.send();
        check.told(x, "edit of an end at 599", x.edit(0, 599, 1), -3, -3);
        check.told(x, "edit at 600", x.edit(0, 600, 1), -3, -3);
        check.told(x, "edit at 598", x.edit(0, 598, 1), 0, 0);
        x.value(0, 7);
        Check.shape(x, "a{" + times("v,", 9) + "down0b{" + times("v,", 9) + "v}" + times(",v", 15) + "}");
        x.send();
        check.told(x, "edit of a value at 599", x.edit(0, 599, 2), 0, 0);
        check.due("holds(0, 599)", x.holds(0, 599), 2);
        check.told(x, "edit at 600 again", x.edit(0, 600, 1), -3, -3);
        // The last row's end is cut off, the values in it are its own all the same.
        x.value(0, 7);
        Check.shape(x, "a{" + times("v,", 22) + "down0b{" + times("v,", 9) + "v}}");
        x.row(1, 49, 0, -1);
        x.send();
        check.due("holds(0, 598)", x.holds(0, 598), 30000);
        check.due("holds(0, 599)", x.holds(0, 599), 10049);
        Check.shape(x, "a{" + times("v,", 20) + "down0b{" + times("v,", 9) + "v}}");
        x.send();
        check.told(x, "edit of a row that is cut", x.edit(0, 599, 50), 49, 0);
        check.told(x, "edit of a row that is whole", x.edit(0, 595, 50), 48, 0);
    }

    // "-1 VALUE; -2 READER; -3; -5 MOMENTS"
    private static void editIsRefusedInOrder() {
        for (int moments : new int[] {5, 300}) {
            PaperRows x = Check.shaped("a{v,up0b{v},up1b{v}}");
            x.row(1, 1, -1, -1);
            x.row(1, 2, -1, -1);
            x.row(0, 3, 0, 1);
            x.reader(2);
            x.send();
            x.go(0);
            for (int i = 4; i < moments; i++) {
                x.value(1, 9);
            }
            // No value, a gone row, a value that is not what the reader holds.
            for (int i : new int[] {0, 3, 6}) {
                check.told(x, "edit of -1, -2 and -3", x.edit(1, i, 1001), -1, -1);
                check.told(x, "edit of -1 and -3", x.edit(0, i, -1001), -1, -1);
                check.told(x, "edit of -2 and -3", x.edit(1, i, 1000), -2, -2);
                check.told(x, "edit of -3", x.edit(0, i, 1000), -3, -3);
            }
            check.told(x, "edit of -1 and -2", x.edit(-1, 1, LEAST), -1, -1);
            check.told(x, "edit of -1", x.edit(0, 1, MOST), -1, -1);
            check.told(x, "edit of -2", x.edit(10, 1, 0), -2, -2);
            check.told(x, "edit at " + moments, x.edit(0, 1, 0), moments == 5 ? 2 : -5, moments == 5 ? 0 : -5);
            check.due("holds(0, 1)", x.holds(0, 1), moments == 5 ? 0 : 3);
            check.due("of(2, 1)", x.of(2, 1), moments == 5 ? 0 : 3);
        }
    }

    // "-2; -5"
    private static void promise14NoSuchRow() {
        PaperRows x = new PaperRows();
        x.row(0, 0, -1, -1);
        x.row(3, 0, -1, -1);
        x.go(0);
        for (int more = 0; more <= 1; more++) {
            for (int row : new int[] {-1, -2, 0, 2, 59, 60, LEAST, MOST}) {
                check.told(x, "reader(" + row + ")", x.reader(row), -2, -2);
            }
            check.due("count(3)", x.count(3), more * 10);
            for (int i = 0; i < 10; i++) {
                check.told(x, "reader(1)", x.reader(1), more == 0 ? i : -5, more == 0 ? 0 : -5);
            }
        }
        // Behind the last moment there are still readers.
        PaperRows y = new PaperRows();
        y.row(0, 0, -1, -1);
        for (int i = 1; i < 300; i++) {
            y.value(0, 0);
        }
        check.told(y, "reader(0) behind 300 moments", y.reader(0), 0, 0);
    }

    // "READERS to whom it was, as bits"
    private static void promise15Bits() {
        PaperRows x = new PaperRows();
        check.due("send() to no readers", x.send(), 0);
        x.row(0, 0, -1, -1);
        x.row(1, 0, -1, -1);
        for (int i = 0; i < 10; i++) {
            x.reader(i == 0 || i == 9 ? 1 : 0);
        }
        check.due("send() without a shape", x.send(), 0);
        Check.shape(x, "b");
        check.due("send() to 0 and 9", x.send(), 513);
        Check.shape(x, "a");
        check.due("send() to all", x.send(), 1023);
        x.go(1);
        check.due("send() of empty ones again", x.send(), 0);
        x.go(0);
        check.due("send() to 1 .. 8", x.send(), 510);
        check.due("count(6)", x.count(6), 20);
        check.due("send() leaves the status", x.status(), 0);
    }

    // "MARK i of what a READER holds; how many (i -1). NOTHING."
    private static void promise16HowMany() {
        PaperRows x = Check.shaped("a{v}");
        x.row(0, -1, -1, -1);
        x.reader(0);
        for (int i : new int[] {0, 1, -2, 599, 600, LEAST, MOST}) {
            check.due("holds(0, " + i + ") at first", x.holds(0, i), Check.NOTHING);
        }
        check.due("holds(0, -1) at first", x.holds(0, -1), 0);
        x.send();
        check.due("holds(0, -1)", x.holds(0, -1), 3);
        check.due("holds(0, 0)", x.holds(0, 0), 10000);
        check.due("holds(0, 1)", x.holds(0, 1), -1);
        check.due("holds(0, 2)", x.holds(0, 2), 30000);
        for (int i : new int[] {3, 4, -2, -3, 599, 600, LEAST, MOST}) {
            check.due("holds(0, " + i + ")", x.holds(0, i), Check.NOTHING);
        }
        for (int reader : NO_READERS) {
            for (int i : new int[] {-1, 0, LEAST, MOST}) {
                check.due("holds(" + reader + ", " + i + ")", x.holds(reader, i), Check.NOTHING);
            }
        }
        check.due("holds(1, -1)", x.holds(1, -1), Check.NOTHING);
    }

    // "1, 0; NONE"
    private static void promise17None() {
        PaperRows x = Check.shaped("a{v}");
        x.row(0, 5, -1, -1);
        x.row(1, 5, -1, -1);
        for (int reader : NO_READERS) {
            check.due("same(" + reader + ") without readers", x.same(reader), -1);
        }
        check.due("same(0) without readers", x.same(0), -1);
        x.reader(0);
        x.reader(1);
        check.due("same(0)", x.same(0), 0);
        check.due("same(1) of two empty ones", x.same(1), 1);
        check.due("same(2)", x.same(2), -1);
        x.send();
        check.due("same(0) behind send()", x.same(0), 1);
        x.edit(0, 1, 6);
        check.due("same(0) behind its edit", x.same(0), 1);
        x.value(0, 5);
        check.due("same(0) of another value", x.same(0), 0);
        for (int reader : NO_READERS) {
            check.due("same(" + reader + ")", x.same(reader), -1);
        }
    }

    // "READERS who have to be sent something, as bits"
    private static void promise20Bits() {
        PaperRows x = Check.shaped("a{v,up0b{v}}");
        x.row(1, 1, -1, -1);
        for (int i = 0; i < 10; i++) {
            x.row(0, i, i == 0 || i == 9 ? 0 : -1, -1);
            x.reader(1 + i);
        }
        check.due("touched(0, 2)", x.touched(0, 2), 513);
        for (int i = 0; i < 10; i++) {
            check.due("touched(" + (1 + i) + ", 500)", x.touched(1 + i, 500), 1 << i);
            x.refer(1 + i, 0, 0);
        }
        check.due("touched(0, 2) of all", x.touched(0, 2), 1023);
        check.due("touched(0, 1), its value", x.touched(0, 1), 0);
        x.go(0);
        check.due("touched of a gone row", x.touched(0, 2), 0);
        check.due("count(4)", x.count(4), 22);
        check.due("count(6)", x.count(6), 0);
    }

    // "(whatever they hold now: by PAPERS of now and then)"
    private static void promise20WhateverTheyHold() {
        PaperRows x = Check.shaped("a{v}");
        x.row(0, 1, -1, -1);
        x.reader(0);
        check.due("touched when it holds nothing", x.touched(0, 2), 1);
        x.send();
        check.due("touched when it holds the paper", x.touched(0, 2), 1);
        x.value(0, 2);
        check.due("touched to what it holds", x.touched(0, 1), 1);
        check.due("touched to what is now", x.touched(0, 2), 0);
        check.due("touched to another", x.touched(0, 3), 1);
        x.edit(0, 1, 3);
        Check.shape(x, "a");
        check.due("touched when no value is in the paper", x.touched(0, 3), 0);
        check.due("touched(0, 1) by that shape", x.touched(0, 1), 0);
        check.due("holds(0, 1) stays", x.holds(0, 1), 1);
        check.due("of(0, 1) stays", x.of(0, 1), 2);
    }

    // "0 without the ROW, VALUE"
    private static void promise20Without() {
        PaperRows x = Check.shaped("a{v}");
        check.due("touched of no rows", x.touched(0, 0), 0);
        x.row(0, 1, -1, -1);
        check.due("touched without readers", x.touched(0, 0), 0);
        x.reader(0);
        check.due("touched(0, 0)", x.touched(0, 0), 1);
        for (int row : new int[] {-1, -2, 1, 59, 60, LEAST, MOST}) {
            check.due("touched(" + row + ", 0)", x.touched(row, 0), 0);
        }
        for (int value : new int[] {-1001, 1001, LEAST, MOST}) {
            check.due("touched(0, " + value + ")", x.touched(0, value), 0);
        }
        check.due("touched(0, -1000)", x.touched(0, -1000), 1);
        check.due("touched(0, 1000)", x.touched(0, 1000), 1);
        check.due("status() stays", x.status(), 0);
        // It asks what would be: it is answered as well where no moment is left to tell it.
        for (int i = 1; i < 300; i++) {
            x.value(0, 1);
        }
        check.due("touched behind 300 moments", x.touched(0, 0), 1);
        x.go(0);
        check.due("touched where nothing can be told", x.touched(0, 1), 0);
    }

    private static void promise20AtTheCut() {
        PaperRows x = of600Marks();
        check.due("touched(48, 0)", x.touched(48, 0), 1);
        Check.shape(x, "a{" + times("v,", 23) + "down0b{" + times("v,", 9) + "v}}");
        check.due("touched of the last row ahead of the cut", x.touched(48, 0), 1);
        x.row(1, 49, 0, -1);
        check.due("touched of a row behind the cut", x.touched(49, 0), 0);
        Check.shape(x, "a{" + times("v,", 22) + "down0b{" + times("v,", 9) + "v}}");
        check.due("mark(0, 599) is its beginning", x.mark(0, 599), 10049);
        check.due("touched of a row whose beginning alone stands", x.touched(49, 0), 0);
        Check.shape(x, "a{" + times("v,", 21) + "down0b{" + times("v,", 9) + "v}}");
        check.due("mark(0, 599) is its value", x.mark(0, 599), 49);
        check.due("touched of a row whose first value stands", x.touched(49, 0), 1);
    }
}
