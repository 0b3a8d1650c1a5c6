/** Rule 7 of the language: no call throws or fails to end, whatever it is called with, also behind the 512th. */
public final class AnyArgumentsTest {
    private static final int[] ANY = {Integer.MIN_VALUE, Integer.MIN_VALUE + 1, -5000, -1001, -3, -2, -1, 0, 1, 2, 5, 9, 10, 20, 59, 60, 100,
        101, 199, 200, 299, 300, 301, 599, 600, 1000, 1001, 20000, 1 << 30, Integer.MAX_VALUE - 1, Integer.MAX_VALUE};

    private static final Check check = new Check("AnyArgumentsTest");
    private static int came = 0;

    public static void main(String[] args) {
        callAll(new PaperRows());
        callAll(Check.shaped("a{v,down0a{v,up1a{v}},up1a}"));
        PaperRows full = Check.shaped("a{v,v,v,v,down0a{v,v,v,v,v,v,v,v,v,v,v,v,down1a{v}}}");
        for (int i = 0; i < 60; i++) {
            full.row(0, i, Math.min(0, i - 1), i - 1);
        }
        for (int i = 0; i < 10; i++) {
            full.reader(i);
        }
        full.send();
        callAll(full);
        check.due("objects that came to the end", came, 3);
        check.close();
    }

    /** What is answered behind the 512th call is free, so it is not looked at here. */
    private static void callAll(PaperRows x) {
        for (int a : ANY) {
            x.go(a >= 0 && a < 9 ? -1 : a);
            x.size(a);
            x.reader(a);
            x.same(a);
            x.count(a);
            for (int b : ANY) {
                x.value(a, b);
                x.of(a, b);
                x.mark(a, b);
                x.holds(a, b);
                x.touched(a, b);
                for (int c : ANY) {
                    x.refer(a, b, c);
                    x.edit(a, b, c);
                    x.asOf(a, b, c);
                    for (int d : ANY) {
                        x.row(a, b, c, d);
                        x.page(a, b, c, d);
                    }
                }
            }
            x.send();
            x.feed(a, a, 0x617b767d, a, a);
            x.end(a);
            x.shape();
            x.fault();
            x.status();
        }
        came++;
    }
}
