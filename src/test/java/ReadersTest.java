/** Promises 14 to 18 and 20: reader, send, holds, same, edit, touched. */
public final class ReadersTest {
    private static final Check check = new Check("ReadersTest");

    public static void main(String[] args) {
        promise14Reader();
        promise15Send();
        promise16Holds();
        promise17Same();
        promise18Edit();
        promise18EditFindsItsRow();
        promise18EditThatCannotBe();
        promise18EditIsRefusedInOrder();
        promise20Touched();
        check.close();
    }

    private static void promise14Reader() {
        PaperRows x = new PaperRows();
        check.told(x, "reader(0) without rows", x.reader(0), -2, -2);
        x.row(0, 0, -1, -1);
        x.row(1, 0, -1, -1);
        for (int i = 0; i < 10; i++) {
            check.told(x, "reader " + i, x.reader(i % 2), i, 0);
            check.due("count(3)", x.count(3), i + 1);
        }
        check.told(x, "reader 10", x.reader(0), -5, -5);
        check.told(x, "reader 10 of no row", x.reader(2), -2, -2);
        check.told(x, "reader(-1)", x.reader(-1), -2, -2);
        x.go(0);
        check.told(x, "reader 10 of a gone row", x.reader(0), -2, -2);
        check.due("count(3) of 10", x.count(3), 10);
        check.due("readers are no moments", x.count(4), 3);
    }

    private static void promise15Send() {
        PaperRows x = Check.shaped("a{v,down0b{v}}");
        check.due("send() without readers", x.send(), 0);
        x.row(0, 1, -1, -1);
        x.row(0, 2, -1, -1);
        x.row(1, 3, 1, -1);
        x.reader(0);
        x.reader(1);
        x.reader(2);
        x.reader(1);
        // Row 2 is not of the shape's table: its paper is empty, which its reader holds already.
        check.due("send() to the first", x.send(), 0b1011);
        check.due("send() again", x.send(), 0);
        check.due("count(6)", x.count(6), 3);
        x.value(2, 3);
        check.due("send() of the same value", x.send(), 0);
        x.value(2, 4);
        check.due("send() of another value", x.send(), 0b1010);
        check.due("count(6) behind it", x.count(6), 5);
        x.value(2, 5);
        x.value(2, 4);
        check.due("send() of a value and back", x.send(), 0);
        Check.shape(x, "b");
        check.due("send() of another shape", x.send(), 0b1111);
        check.held(x, 0);
        check.held(x, 2, 10002, 30000);
        x.go(2);
        check.due("send() of a gone row", x.send(), 0b0100);
        check.held(x, 2);
        check.due("count(6) in all", x.count(6), 10);
        PaperRows ten = Check.shaped("a");
        ten.row(0, 0, -1, -1);
        for (int i = 0; i < 10; i++) {
            ten.reader(0);
        }
        check.due("send() to ten", ten.send(), 1023);
        check.due("count(6) of ten", ten.count(6), 10);
    }

    private static void promise16Holds() {
        PaperRows x = Check.shaped("a{v}");
        x.row(0, 1, -1, -1);
        check.due("holds(0, -1) without readers", x.holds(0, -1), Check.NOTHING);
        x.reader(0);
        check.held(x, 0);
        x.send();
        check.held(x, 0, 10000, 1, 30000);
        x.value(0, 2);
        check.held(x, 0, 10000, 1, 30000);
        Check.shape(x, "a");
        check.held(x, 0, 10000, 1, 30000);
        x.go(0);
        check.held(x, 0, 10000, 1, 30000);
        check.due("holds(0, -2)", x.holds(0, -2), Check.NOTHING);
        check.due("holds(0, 600)", x.holds(0, 600), Check.NOTHING);
        check.due("holds(1, -1)", x.holds(1, -1), Check.NOTHING);
        check.due("holds(1, 0)", x.holds(1, 0), Check.NOTHING);
        check.due("holds(-1, 0)", x.holds(-1, 0), Check.NOTHING);
        check.due("holds(10, 0)", x.holds(10, 0), Check.NOTHING);
    }

    private static void promise17Same() {
        PaperRows x = Check.shaped("a{v,up0b{v}}");
        x.row(1, 1, -1, -1);
        x.row(0, 2, 0, -1);
        check.due("same(0) without readers", x.same(0), -1);
        x.reader(1);
        x.reader(0);
        check.due("same(0) ahead of send()", x.same(0), 0);
        check.due("same(1) of an empty paper", x.same(1), 1);
        x.send();
        check.due("same(0)", x.same(0), 1);
        x.value(0, 3);
        check.due("same(0) of another value", x.same(0), 0);
        x.value(0, 1);
        check.due("same(0) of the value again", x.same(0), 1);
        x.refer(1, 0, -1);
        check.due("same(0) of a shorter paper", x.same(0), 0);
        x.refer(1, 0, 0);
        Check.shape(x, "a{v,up0b{v},v}");
        check.due("same(0) of a longer paper", x.same(0), 0);
        check.due("same(2)", x.same(2), -1);
        check.due("same(-1)", x.same(-1), -1);
        check.due("same(10)", x.same(10), -1);
    }

    private static void promise18Edit() {
        PaperRows x = Check.shaped("a{v,up0b{v},v}");
        x.row(1, 1, -1, -1);
        x.row(0, 2, 0, -1);
        x.reader(1);
        x.reader(1);
        x.send();
        check.held(x, 0, 10001, 2, 10000, 1, 30000, 2, 30000);
        check.told(x, "edit(0, 3, -1000)", x.edit(0, 3, -1000), 0, 0);
        check.due("of(0, 1)", x.of(0, 1), -1000);
        check.held(x, 0, 10001, 2, 10000, -1000, 30000, 2, 30000);
        check.held(x, 1, 10001, 2, 10000, 1, 30000, 2, 30000);
        check.due("an edit is a moment", x.count(4), 3);
        check.due("same(0) behind its edit", x.same(0), 1);
        check.due("same(1) behind another's edit", x.same(1), 0);
        check.told(x, "edit of an old value", x.edit(1, 3, 5), -3, -3);
        check.due("send() behind an edit", x.send(), 0b10);
        // Just the one mark becomes otherwise, even if the value stands there twice.
        check.told(x, "edit(0, 1, 9)", x.edit(0, 1, 9), 1, 0);
        check.held(x, 0, 10001, 9, 10000, -1000, 30000, 2, 30000);
        check.due("same(0) with one of two", x.same(0), 0);
        check.told(x, "edit of the other of two", x.edit(0, 5, 9), -3, -3);
        check.told(x, "edit(0, 1, 9) again", x.edit(0, 1, 9), 1, 0);
        check.due("the same value told is a moment", x.count(4), 5);
        check.due("asOf ahead of the edits", x.asOf(2, 1, 3), 1);
        check.due("asOf behind the first edit", x.asOf(3, 1, 3), -1000);
        check.due("asOf behind the second edit", x.asOf(4, 1, 1), 9);
    }

    private static void promise18EditFindsItsRow() {
        PaperRows x = Check.shaped("a{v,down0a{v,up0a,v},v,up1a{v},v}");
        x.row(0, 5, -1, -1);
        x.row(0, 5, 0, -1);
        x.row(0, 5, 0, -1);
        x.row(0, 5, -1, -1);
        x.refer(0, 1, 3);
        x.reader(0);
        x.send();
        check.held(x, 0, 10000, 5, 10001, 5, 20000, 5, 30000, 10002, 5, 20000, 5, 30000, 5, 10003, 5, 30000, 5, 30000);
        int[] rowOf = {-3, 0, -3, 1, -3, 1, -3, -3, 2, -3, 2, -3, 0, -3, 3, -3, 0, -3};
        for (int i = 0; i < rowOf.length; i++) {
            check.due("edit(0, " + i + ", 5)", x.edit(0, i, 5), rowOf[i]);
        }
        // What the reader holds decides, also when the row is in no paper any more.
        x.refer(0, 1, -1);
        check.told(x, "edit of a row that left the paper", x.edit(0, 14, 6), 3, 0);
        check.due("of(3, 1)", x.of(3, 1), 6);
        Check.shape(x, "d");
        check.told(x, "edit by an older shape", x.edit(0, 10, 7), 2, 0);
        check.due("holds(0, 10)", x.holds(0, 10), 7);
    }

    private static void promise18EditThatCannotBe() {
        PaperRows x = Check.shaped("a{v,down0b{v}}");
        x.row(0, 1, -1, -1);
        x.row(1, 2, 0, -1);
        x.reader(0);
        check.told(x, "edit of an empty paper", x.edit(0, 0, 0), -3, -3);
        x.send();
        for (int i : new int[] {0, 2, 4, 5, 6, 600, -1, -2, Integer.MAX_VALUE, Integer.MIN_VALUE}) {
            check.told(x, "edit(0, " + i + ", 0)", x.edit(0, i, 0), -3, -3);
        }
        x.value(1, 3);
        check.told(x, "edit of another value", x.edit(0, 3, 4), -3, -3);
        check.told(x, "edit to the value that is", x.edit(0, 3, 3), -3, -3);
        x.value(1, 2);
        check.told(x, "edit of the value again", x.edit(0, 3, 4), 1, 0);
        x.go(1);
        check.told(x, "edit of a gone row", x.edit(0, 3, 5), -3, -3);
        check.told(x, "edit of one that stands", x.edit(0, 1, 5), 0, 0);
        check.held(x, 0, 10000, 5, 10001, 4, 30000, 30000);
        x.go(0);
        check.told(x, "edit of a gone beginning", x.edit(0, 1, 6), -3, -3);
        check.due("count(4)", x.count(4), 8);
    }

    private static void promise18EditIsRefusedInOrder() {
        PaperRows x = Check.shaped("a{v}");
        x.row(0, 1, -1, -1);
        check.told(x, "edit(0, 0, 1001)", x.edit(0, 0, 1001), -1, -1);
        check.told(x, "edit(0, 0, -1001)", x.edit(0, 0, -1001), -1, -1);
        check.told(x, "edit(0, 0, 0)", x.edit(0, 0, 0), -2, -2);
        x.reader(0);
        x.send();
        check.told(x, "edit(-1, 1, 0)", x.edit(-1, 1, 0), -2, -2);
        check.told(x, "edit(10, 1, 0)", x.edit(10, 1, 0), -2, -2);
        check.told(x, "edit(0, 0, 1001) with a reader", x.edit(0, 0, 1001), -1, -1);
        check.told(x, "edit(0, 1, 1000)", x.edit(0, 1, 1000), 0, 0);
    }

    private static void promise20Touched() {
        PaperRows x = Check.shaped("a{v,down0b,up1b{v}}");
        x.row(0, 1, -1, -1);
        x.row(0, 2, -1, -1);
        x.row(1, 3, 0, -1);
        x.row(1, 4, -1, -1);
        x.refer(0, 1, 3);
        x.refer(1, 1, 3);
        check.due("touched without readers", x.touched(0, 0), 0);
        x.reader(0);
        x.reader(1);
        x.reader(0);
        x.reader(2);
        // Nothing was sent yet: what they hold does not matter.
        check.due("touched(0, 0)", x.touched(0, 0), 0b101);
        check.due("touched(1, 0)", x.touched(1, 0), 0b010);
        check.due("touched(2, 0), whose value is in no paper", x.touched(2, 0), 0);
        check.due("touched(3, 0)", x.touched(3, 0), 0b111);
        check.due("touched(3, 4), its value", x.touched(3, 4), 0);
        check.due("touched(4, 0)", x.touched(4, 0), 0);
        check.due("touched(-1, 0)", x.touched(-1, 0), 0);
        check.due("touched(60, 0)", x.touched(60, 0), 0);
        check.due("touched(0, 1001)", x.touched(0, 1001), 0);
        check.due("touched(0, -1001)", x.touched(0, -1001), 0);
        check.due("touched(0, 1000)", x.touched(0, 1000), 0b101);
        check.due("touched(0, -1000)", x.touched(0, -1000), 0b101);
        check.due("of(3, 1) stays", x.of(3, 1), 4);
        check.due("count(4) stays", x.count(4), 6);
        check.due("mark(0, 1) stays", x.mark(0, 1), 1);
        check.due("status() stays", x.status(), 0);
        x.send();
        x.value(3, 5);
        check.due("touched(3, 4), which they hold", x.touched(3, 4), 0b111);
        check.due("touched(3, 5), which they do not hold", x.touched(3, 5), 0);
        x.go(3);
        check.due("touched of a gone row", x.touched(3, 0), 0);
        Check.shape(x, "b{v}");
        check.due("touched by another shape", x.touched(2, 0), 0b1000);
        check.due("touched(0, 0) by another shape", x.touched(0, 0), 0);
    }
}
