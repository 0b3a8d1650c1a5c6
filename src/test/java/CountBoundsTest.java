/** Promises 21 and 22, and the 512 calls of an object: each sentence that names a bound, from both of its sides. */
public final class CountBoundsTest {
    private static final Check check = new Check("CountBoundsTest");
    private static final int LEAST = Integer.MIN_VALUE;
    private static final int MOST = Integer.MAX_VALUE;
    private static final int BLANKS = 0x20202020;

    public static void main(String[] args) {
        promise21NoneForOthers();
        promise21LeastOfEach();
        promise21MostOfEach();
        promise21Sent();
        promise22AheadOfAny();
        promise22EachRefusal();
        promise22ZeroIfNotRefused();
        promise22OthersLeaveIt();
        promise22AnswersThatLookAlike();
        the512thCall();
        objectsAreOfTheirOwn();
        check.close();
    }

    private static void counts(PaperRows x, int... want) {
        for (int what = 0; what < want.length; what++) {
            check.due("count(" + what + ")", x.count(what), want[what]);
        }
    }

    // "NONE for others"
    private static void promise21NoneForOthers() {
        PaperRows x = Check.shaped("a");
        x.row(0, 0, -1, -1);
        for (int what : new int[] {-1, -2, 7, 8, 100, LEAST, MOST}) {
            check.due("count(" + what + ")", x.count(what), -1);
        }
        counts(x, 1, 1, 1, 0, 1, 0, 0);
    }

    private static void promise21LeastOfEach() {
        PaperRows x = new PaperRows();
        counts(x, 0, 0, 0, 0, 0, 0, 0);
        x.row(0, 0, -1, -1);
        counts(x, 1, 1, 0, 0, 1, 0, 0);
        x.go(0);
        counts(x, 0, 1, 0, 0, 2, 0, 0);
        x.feed(BLANKS, BLANKS, BLANKS, BLANKS, BLANKS);
        counts(x, 0, 1, 0, 0, 2, 20, 0);
        x.end(0);
        counts(x, 0, 1, 0, 0, 2, 0, 0);
        x.shape();
        x.reader(0);
        x.send();
        counts(x, 0, 1, 0, 0, 2, 0, 0);
    }

    // "0 ROWS that are there, 1 ROWS in all, 2 PARTS, 3 READERS, 4 MOMENTS, 5 bytes of the TAPE"
    private static void promise21MostOfEach() {
        StringBuilder text = new StringBuilder("a{");
        for (int i = 0; i < 18; i++) {
            text.append("up0a,");
        }
        PaperRows x = Check.shaped(text.append("up0a}").toString());
        for (int i = 0; i < 61; i++) {
            x.row(0, 0, -1, -1);
        }
        for (int i = 0; i < 11; i++) {
            x.reader(i);
        }
        for (int i = 0; i < 11; i++) {
            x.feed(BLANKS, BLANKS, BLANKS, BLANKS, BLANKS);
        }
        counts(x, 60, 60, 20, 10, 60, 200, 0);
        for (int i = 60; i < 301; i++) {
            x.value(0, 0);
        }
        x.send();
        counts(x, 60, 60, 20, 10, 300, 200, 10);
        x.shape();
        x.go(0);
        counts(x, 60, 60, 20, 10, 300, 0, 10);
    }

    // "6 how often something was SENT in all"
    private static void promise21Sent() {
        PaperRows x = new PaperRows();
        x.row(0, 0, -1, -1);
        for (int i = 0; i < 10; i++) {
            x.reader(0);
        }
        check.due("send() without a shape", x.send(), 0);
        check.due("count(6) when nothing was sent", x.count(6), 0);
        for (int i = 1; i <= 40; i++) {
            Check.shape(x, i % 2 == 1 ? "a" : "b");
            x.send();
            x.send();
            check.due("count(6) behind " + i, x.count(6), 10 * i);
        }
    }

    // "0 if it was not, or ahead of any"
    private static void promise22AheadOfAny() {
        PaperRows x = new PaperRows();
        check.due("status() at once", x.status(), 0);
        check.due("status() again", x.status(), 0);
        others(x);
        check.due("status() behind calls that it does not tell of", x.status(), 0);
    }

    /** Calls that are not of the seven, those that answer and those that do not. */
    private static void others(PaperRows x) {
        for (int i = -1; i <= 7; i++) {
            x.of(i, i);
            x.size(i);
            x.mark(i, i);
            x.page(i, i, i, i);
            x.holds(i, i);
            x.same(i);
            x.asOf(i, i, i);
            x.touched(i, i);
            x.touched(i, 1001);
            x.count(i);
        }
        for (int i = 0; i < 11; i++) {
            x.feed(0, 0, 0, 0, 0);
        }
        x.end(201);
        x.end(-1);
        x.end(0);
        x.fault();
        x.send();
        x.status();
    }

    // "What the latest call of row, value, refer, go, shape, reader, edit was REFUSED by"
    private static PaperRows withAReader() {
        PaperRows x = Check.shaped("a{v}");
        x.row(0, 5, -1, -1);
        x.reader(0);
        x.send();
        return x;
    }

    private static void promise22EachRefusal() {
        int[] due = {-1, -1, -2, -1, -2, -1, -2, -2, -6, -2, -1, -2, -3};
        for (int kind = 0; kind < due.length; kind++) {
            PaperRows x = withAReader();
            check.told(x, "value(0, 5)", x.value(0, 5), 5, 0);
            check.told(x, "refused call " + kind, refused(x, kind), due[kind], due[kind]);
            others(x);
            check.due("status() stays behind others", x.status(), due[kind]);
        }
        for (int last = 0; last < due.length; last++) {
            PaperRows x = withAReader();
            for (int next = 0; next < due.length; next++) {
                refused(x, last);
                check.told(x, "refused call " + next + " behind " + last, refused(x, next), due[next], due[next]);
            }
        }
    }

    private static int refused(PaperRows x, int kind) {
        switch (kind) {
            case 0: return x.row(4, 0, -1, -1);
            case 1: return x.row(0, 1001, -1, -1);
            case 2: return x.row(0, 0, 60, -1);
            case 3: return x.value(0, 1001);
            case 4: return x.value(60, 0);
            case 5: return x.refer(0, 2, 0);
            case 6: return x.refer(0, 0, 60);
            case 7: return x.go(60);
            case 8: return x.shape();
            case 9: return x.reader(60);
            case 10: return x.edit(0, 1, 1001);
            case 11: return x.edit(10, 1, 0);
            default: return x.edit(0, 0, 0);
        }
    }

    private static int taken(PaperRows x, int kind) {
        switch (kind) {
            case 0: return x.row(1, 0, 0, -1);
            case 1: return x.value(1, 0);
            case 2: return x.refer(1, 0, -1);
            case 3: return x.reader(1);
            case 4: return x.edit(0, 1, 6);
            case 5: return Check.shape(x, "a");
            default: return x.go(1);
        }
    }

    private static void promise22ZeroIfNotRefused() {
        int[] answers = {1, 0, 0, 1, 0, 1, 0};
        for (int refusal = 0; refusal <= 12; refusal++) {
            PaperRows x = withAReader();
            for (int kind = 0; kind < answers.length; kind++) {
                check.due("status() behind refusal " + refusal, refused(x, refusal), x.status());
                check.told(x, "call " + kind + " behind it", taken(x, kind), answers[kind], 0);
            }
        }
    }

    private static void promise22OthersLeaveIt() {
        PaperRows x = Check.shaped("a{v}");
        for (int i = 0; i < 60; i++) {
            x.row(0, 0, -1, -1);
        }
        check.told(x, "the 61st row", x.row(0, 0, -1, -1), -5, -5);
        others(x);
        check.due("status() behind others", x.status(), -5);
        check.told(x, "the shape of no text", x.shape(), -6, -6);
        others(x);
        check.due("status() of shape behind others", x.status(), -6);
        x.value(0, 1);
        others(x);
        check.due("status() of value behind others", x.status(), 0);
    }

    private static void promise22AnswersThatLookAlike() {
        PaperRows x = new PaperRows();
        x.row(0, -1, -1, -1);
        int[] values = {-2, -3, -5, -6, -1, 0};
        int was = -1;
        for (int value : values) {
            check.told(x, "value of " + was, x.value(0, value), was, 0);
            check.told(x, "value of no row", x.value(1, value), -2, -2);
            was = value;
        }
    }

    // "An object is used for at most 512 calls after it has been made"
    private static void the512thCall() {
        int[] due = {59, -2, 205, 0, Check.NOTHING, 205, -1, 20, -6, 3, 10058, 30000, -2, 3, 205, 1, 0, 205, 1, 0, 264, 1, -1, 0};
        for (int kind = 0; kind < due.length; kind++) {
            check.due("the 512th call, of kind " + kind, last(behind511Calls(), kind), due[kind]);
        }
    }

    private static PaperRows behind511Calls() {
        PaperRows x = new PaperRows();
        x.feed(0x617b767d, BLANKS, BLANKS, BLANKS, BLANKS);
        x.end(4);
        x.shape();
        for (int i = 0; i < 59; i++) {
            x.row(0, 0, -1, -1);
        }
        for (int i = 1; i <= 205; i++) {
            x.value(0, i);
        }
        x.reader(0);
        x.send();
        int calls = 3 + 59 + 205 + 2;
        for (int i = calls; i < 511; i++) {
            x.size(0);
        }
        return x;
    }

    private static int last(PaperRows x, int kind) {
        switch (kind) {
            case 0: return x.row(0, 0, 58, -1);
            case 1: return x.row(0, 0, 59, -1);
            case 2: return x.value(0, 7);
            case 3: return x.refer(58, 1, 0);
            case 4: return x.of(59, 0);
            case 5: return x.of(0, 1);
            case 6: return x.end(1);
            case 7: return x.feed(0, 0, 0, 0, 0);
            case 8: return x.shape();
            case 9: return x.size(58);
            case 10: return x.mark(58, 0);
            case 11: return x.page(0, 2, 1, 0);
            case 12: return x.go(59);
            case 13: return x.holds(0, -1);
            case 14: return x.holds(0, 1);
            case 15: return x.reader(58);
            case 16: return x.send();
            case 17: return x.asOf(264, 0, 1);
            case 18: return x.touched(0, 0);
            case 19: return x.edit(0, 1, 8);
            case 20: return x.count(4);
            case 21: return x.same(0);
            case 22: return x.fault();
            default: return x.status();
        }
    }

    private static void objectsAreOfTheirOwn() {
        PaperRows x = Check.shaped("a{v}");
        PaperRows y = new PaperRows();
        x.row(0, 5, -1, -1);
        x.reader(0);
        x.send();
        Check.put(x, "a");
        x.value(0, 1001);
        counts(y, 0, 0, 0, 0, 0, 0, 0);
        check.due("status() of the other", y.status(), 0);
        check.due("row of the other", y.row(1, 0, -1, -1), 0);
        check.due("status() of the one", x.status(), -1);
        check.due("of(0, 0) of the one", x.of(0, 0), 0);
        counts(x, 1, 1, 1, 1, 1, 1, 1);
    }
}
