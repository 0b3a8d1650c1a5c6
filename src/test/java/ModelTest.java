/** Long runs of calls, the same ones each time, each answer against the oracle's. */
public final class ModelTest {
    private static final int RUNS = 8000;
    // What an object answers behind its 512th call is free.
    private static final int CALLS = 512;
    private static final int CALLS_OF_LOOK = 70;
    private static final int[] ODD = {Integer.MIN_VALUE, Integer.MIN_VALUE + 1, -20001, -1002, -1001, -1000, -3, -2, -1, 0, 1, 2, 3, 4, 5,
        9, 10, 11, 59, 60, 61, 100, 101, 199, 200, 201, 299, 300, 301, 599, 600, 601, 1000, 1001, 10000, 65536, 1 << 30,
        Integer.MAX_VALUE - 1, Integer.MAX_VALUE};

    private static final Check check = new Check("ModelTest");
    private static long seed;
    private static PaperRows x;
    private static Oracle o;
    private static int run;
    private static int callsLeft;
    private static int style;
    private static boolean telling;
    private static boolean rowsGo;
    private static boolean bushy;

    public static void main(String[] args) {
        for (run = 0; run < RUNS; run++) {
            seed = run * 7919L + 17;
            style = pick(6);
            telling = pick(4) == 0;
            rowsGo = pick(3) == 0;
            bushy = pick(3) == 0;
            x = new PaperRows();
            o = new Oracle();
            callsLeft = CALLS;
            begin();
            while (callsLeft > CALLS_OF_LOOK) {
                call(telling && pick(8) != 0 ? pick(20) : pick(100));
            }
            while (callsLeft > 1) {
                look();
            }
            check.due("calls beyond the last", Math.max(0, -callsLeft), 0);
        }
        check.close();
    }

    private static int pick(int n) {
        seed = seed * 6364136223846793005L + 1442695040888963407L;
        return (int) Math.floorMod(seed >>> 33, (long) n);
    }

    private static int odd() {
        return ODD[pick(ODD.length)];
    }

    private static int mostly(int from, int past) {
        return pick(25) == 0 ? odd() : from + pick(past - from);
    }

    private static int aRow() {
        if (bushy && pick(3) == 0) {
            return pick(2);
        }
        int known = Math.max(1, o.count(1));
        int row = pick(25) == 0 ? odd() : pick(known);
        return o.of(row, 4) == 1 || pick(4) == 0 ? row : pick(known);
    }

    private static int aReference() {
        return pick(5) == 0 ? -1 : aRow();
    }

    private static int aTable() {
        return pick(25) == 0 ? odd() : pick(style < 3 ? 1 : style < 5 ? 2 : 4);
    }

    private static int aValue() {
        return pick(25) == 0 ? odd() : pick(3) == 0 ? pick(2001) - 1000 : pick(4);
    }

    private static void begin() {
        int rows = pick(2) == 0 ? 60 : pick(20);
        for (int i = 0; i < rows; i++) {
            if (bushy) {
                int v = aValue(), r = Math.min(pick(6), i) - 1, s = Math.min(pick(6), i) - 1;
                due("row", x.row(0, v, r, s), o.row(0, v, r, s));
            } else {
                newRow();
            }
        }
        newShape();
        for (int i = pick(4); i > 0; i--) {
            due("reader", x.reader(0), o.reader(0));
        }
        int told = pick(5) == 0 ? 280 + pick(21) : 0;
        while (o.count(4) < told && callsLeft > 2 * CALLS_OF_LOOK) {
            tellARow();
        }
    }

    private static void tellARow() {
        int r = aRow(), v = aValue(), n = pick(2), to = aReference();
        if (pick(2) == 0) {
            due("value(" + r + ", " + v + ")", x.value(r, v), o.value(r, v));
        } else {
            due("refer(" + r + ", " + n + ", " + to + ")", x.refer(r, n, to), o.refer(r, n, to));
        }
    }

    private static void due(String call, int got, int want) {
        callsLeft--;
        check.due("run " + run + " " + call, got, want);
        if (got < 0 || pick(10) == 0) {
            callsLeft--;
            check.due("run " + run + " status behind " + call, x.status(), o.status());
        }
    }

    private static void newRow() {
        int t = aTable(), v = aValue(), r = aReference(), s = aReference();
        due("row(" + t + ", " + v + ", " + r + ", " + s + ")", x.row(t, v, r, s), o.row(t, v, r, s));
    }

    private static void newShape() {
        String text = aText();
        int[] n = Check.numbers(text);
        for (int i = 0; i + 4 < n.length; i += 5) {
            due("feed", x.feed(n[i], n[i + 1], n[i + 2], n[i + 3], n[i + 4]), o.feed(n[i], n[i + 1], n[i + 2], n[i + 3], n[i + 4]));
        }
        due("end", x.end(text.length()), o.end(text.length()));
        due("shape of " + text, x.shape(), o.shape());
        due("fault of " + text, x.fault(), o.fault());
    }

    private static String aText() {
        StringBuilder text = new StringBuilder();
        blanks(text);
        if (pick(3) == 0) {
            fat(text);
        } else {
            part(text, 0, pick(3) == 0 ? 7 : 4);
        }
        blanks(text);
        if (text.length() > 200 && pick(4) != 0) {
            text.setLength(200);
        }
        for (int i = pick(5) == 0 ? 1 + pick(2) : 0; i > 0; i--) {
            spoil(text);
        }
        return text.toString();
    }

    private static void spoil(StringBuilder text) {
        int at = pick(text.length() + 1);
        String signs = "abcdevupdown0123{}, \t\u00ff\u0000A;";
        int way = pick(4);
        if (way == 0) {
            text.insert(at, signs.charAt(pick(signs.length())));
        } else if (at < text.length() && way == 1) {
            text.setCharAt(at, signs.charAt(pick(signs.length())));
        } else if (at < text.length() && way == 2) {
            text.deleteCharAt(at);
        } else {
            text.setLength(at);
        }
    }

    /** Few tables and many values: papers that come near the most marks. */
    private static void fat(StringBuilder text) {
        int parts = 1 + pick(4), values = pick(bushy ? 80 / (parts + 1) : 16);
        for (int i = 0; i < parts; i++) {
            text.append(style < 4 || pick(3) == 0 ? 'a' : 'b').append('{');
            for (int k = 0; k < values; k++) {
                text.append("v,");
            }
            text.append(pick(4) == 0 ? "up" : "down").append(pick(2));
        }
        text.append("a{v");
        for (int k = 1; k < values; k++) {
            text.append(",v");
        }
        text.append('}');
        for (int i = 0; i < parts; i++) {
            text.append(pick(2) == 0 ? ",v}" : "}");
        }
    }

    private static void blanks(StringBuilder text) {
        for (int i = pick(6) - 4; i > 0; i--) {
            text.append(' ');
        }
    }

    private static void part(StringBuilder text, int depth, int most) {
        text.append((char) ('a' + Math.floorMod(aTable(), 4)));
        blanks(text);
        boolean chain = most == 7;
        if (depth >= most || text.length() > 170 || !chain && pick(4) == 0) {
            return;
        }
        text.append('{');
        int items = chain ? 1 + pick(2) : 1 + pick(4);
        for (int i = 0; i < items; i++) {
            if (i > 0) {
                text.append(',');
            }
            blanks(text);
            int kind = pick(3);
            if (kind == 0 && !chain || text.length() > 180) {
                text.append('v');
            } else {
                text.append(kind == 1 ? "up" : "down");
                blanks(text);
                for (int k = pick(8) - 6; k > 0; k--) {
                    text.append('0');
                }
                text.append(pick(2));
                blanks(text);
                part(text, depth + 1, most);
            }
            blanks(text);
        }
        text.append('}');
    }

    private static void call(int what) {
        if (what < 5) {
            newRow();
        } else if (what < 12) {
            int r = aRow(), v = aValue();
            due("value(" + r + ", " + v + ")", x.value(r, v), o.value(r, v));
        } else if (what < 20) {
            int r = aRow(), n = mostly(0, 2), to = aReference();
            due("refer(" + r + ", " + n + ", " + to + ")", x.refer(r, n, to), o.refer(r, n, to));
        } else if (what < 22 && (rowsGo || pick(8) == 0)) {
            int r = aRow();
            due("go(" + r + ")", x.go(r), o.go(r));
        } else if (what < 27) {
            int r = aRow(), w = mostly(-1, 6);
            due("of(" + r + ", " + w + ")", x.of(r, w), o.of(r, w));
        } else if (what < 30) {
            tape();
        } else if (what < 33) {
            newShape();
        } else if (what < 38) {
            int r = aRow();
            due("size(" + r + ")", x.size(r), o.size(r));
        } else if (what < 46) {
            int r = aRow(), i = place(o.size(r));
            due("mark(" + r + ", " + i + ")", x.mark(r, i), o.mark(r, i));
        } else if (what < 54) {
            int r = aRow(), n = pick(3) == 0 ? mostly(0, 102) : mostly(1, 6), k = mostly(-1, 8), i = pick(3) == 0 ? -1 : mostly(0, 6);
            due("page(" + r + ", " + n + ", " + k + ", " + i + ")", x.page(r, n, k, i), o.page(r, n, k, i));
        } else {
            readersCall(what);
        }
    }

    private static void tape() {
        int a = pick(1 << 30) * 3, b = odd(), c = pick(7), d = 0x61626364, e = 0x20202020;
        due("feed", x.feed(a, b, c, d, e), o.feed(a, b, c, d, e));
        if (pick(2) == 0) {
            int n = mostly(-1, o.count(5) + 2);
            due("end(" + n + ")", x.end(n), o.end(n));
        }
        if (pick(3) == 0) {
            due("shape()", x.shape(), o.shape());
            due("fault()", x.fault(), o.fault());
        }
    }

    private static int place(int size) {
        return pick(20) == 0 ? odd() : pick(size + 2) - (pick(8) == 0 ? 1 : 0);
    }

    private static int aReader() {
        return pick(25) == 0 ? odd() : pick(Math.max(1, o.count(3)));
    }

    private static void readersCall(int what) {
        if (what < 57) {
            int r = aRow();
            due("reader(" + r + ")", x.reader(r), o.reader(r));
        } else if (what < 61) {
            due("send()", x.send(), o.send());
        } else if (what < 67) {
            int r = aReader(), i = place(Math.max(0, o.holds(r, -1)));
            due("holds(" + r + ", " + i + ")", x.holds(r, i), o.holds(r, i));
        } else if (what < 71) {
            int r = aReader();
            due("same(" + r + ")", x.same(r), o.same(r));
        } else if (what < 81) {
            int r = aReader(), i = anEditable(r), v = aValue();
            due("edit(" + r + ", " + i + ", " + v + ")", x.edit(r, i, v), o.edit(r, i, v));
        } else if (what < 88) {
            int m = mostly(-1, o.count(4) + 2), r = aRow(), i = place(Math.max(0, o.asOf(m, r, -1)));
            due("asOf(" + m + ", " + r + ", " + i + ")", x.asOf(m, r, i), o.asOf(m, r, i));
        } else if (what < 95) {
            int r = aRow(), v = aValue();
            due("touched(" + r + ", " + v + ")", x.touched(r, v), o.touched(r, v));
        } else {
            int w = mostly(-1, 8);
            due("count(" + w + ")", x.count(w), o.count(w));
        }
    }

    /** Mostly a mark that is a value, so that edits often can be. */
    private static int anEditable(int reader) {
        int size = Math.max(0, o.holds(reader, -1));
        int i = place(size);
        for (int k = 0; k < 10 && pick(8) != 0; k++) {
            int mark = o.holds(reader, i);
            if (mark >= -1000 && mark <= 1000) {
                return i;
            }
            i = place(size);
        }
        return i;
    }

    private static void look() {
        int what = pick(12);
        if (what == 0) {
            int w = pick(7);
            due("count(" + w + ")", x.count(w), o.count(w));
        } else if (what < 7) {
            int r = aReader(), size = Math.max(0, o.holds(r, -1));
            int i = pick(3) == 0 ? size - 1 : pick(size + 2) - 1;
            due("holds(" + r + ", " + i + ")", x.holds(r, i), o.holds(r, i));
        } else if (what < 11) {
            int r = aRow(), w = pick(5);
            due("of(" + r + ", " + w + ")", x.of(r, w), o.of(r, w));
        } else {
            int m = o.count(4), r = aRow();
            due("asOf(" + m + ", " + r + ", -1)", x.asOf(m, r, -1), o.asOf(m, r, -1));
        }
    }
}
