/** Promises 7 to 10: feed, end, shape, fault. */
public final class TextTest {
    private static final Check check = new Check("TextTest");

    public static void main(String[] args) {
        promise7Feed();
        promise8End();
        promise9Shape();
        promise9ShapeStaysWithFault();
        promise9Limits();
        promise10Fault();
        promise10FaultOfMore();
        check.close();
    }

    private static void reads(String text, int parts) {
        PaperRows x = new PaperRows();
        check.told(x, "shape of '" + text + "'", Check.shape(x, text), parts, 0);
        check.due("fault of '" + text + "'", x.fault(), -1);
        check.due("count(2) of '" + text + "'", x.count(2), parts);
        check.due("count(5) of '" + text + "'", x.count(5), 0);
    }

    private static void faults(String text, int place) {
        PaperRows x = new PaperRows();
        check.told(x, "shape of '" + text + "'", Check.shape(x, text), -6, -6);
        check.due("fault of '" + text + "'", x.fault(), place);
        check.due("count(2) of '" + text + "'", x.count(2), 0);
        check.due("count(5) of '" + text + "'", x.count(5), 0);
    }

    private static void promise7Feed() {
        PaperRows x = new PaperRows();
        int[] n = Check.numbers("a{v,v,v,v,up0b{v},v}");
        check.due("feed of 20 bytes", x.feed(n[0], n[1], n[2], n[3], n[4]), 20);
        check.due("shape of 20 bytes", x.shape(), 2);
        for (int i = 1; i <= 10; i++) {
            check.due("feed " + i, x.feed(0x20202020, 0x20202020, 0x20202020, 0x20202020, 0x20202020), 20 * i);
        }
        check.due("feed 11", x.feed(n[0], n[1], n[2], n[3], n[4]), -1);
        check.due("count(5) behind feed 11", x.count(5), 200);
        check.due("end(181)", x.end(181), 181);
        check.due("feed behind 181", x.feed(0, 0, 0, 0, 0), -1);
        check.due("count(5) behind 181", x.count(5), 181);
        check.due("end(180)", x.end(180), 180);
        check.due("feed behind 180", x.feed(n[0], n[1], n[2], n[3], n[4]), 200);
        check.due("shape of a late text", x.shape(), 2);
        // The highest byte comes first, and none is a sign's minus.
        x.feed(0x6120ff20, -1, -1, -1, -1);
        check.due("shape with byte 255", x.shape(), -6);
        check.due("fault at byte 255", x.fault(), 2);
        check.due("status is shape's", x.status(), -6);
        x.feed(0, 0, 0, 0, 0);
        check.due("status behind feed", x.status(), -6);
    }

    private static void promise8End() {
        PaperRows x = new PaperRows();
        check.due("end(0) of nothing", x.end(0), 0);
        check.due("end(1) of nothing", x.end(1), -1);
        check.due("end(-1)", x.end(-1), -1);
        x.feed(0x617b767d, 0x78787878, 0, 0, 0);
        check.due("end(21)", x.end(21), -1);
        check.due("end(-2147483648)", x.end(Integer.MIN_VALUE), -1);
        check.due("count(5)", x.count(5), 20);
        check.due("end(20)", x.end(20), 20);
        check.due("end(4)", x.end(4), 4);
        check.due("end(5) of 4", x.end(5), -1);
        check.due("shape of 4 bytes", x.shape(), 1);
        check.due("status", x.status(), 0);
    }

    private static void promise9Shape() {
        reads("a", 1);
        reads("d", 1);
        reads("   b   ", 1);
        reads("c{v}", 1);
        reads("a{v,v,v}", 1);
        reads("a{up0b}", 2);
        reads("a{up1b,down0c}", 3);
        reads("a{up 0 b{v,down 1 c{v}},v}", 3);
        reads("  a  {  v  ,  down  1  d  {  v  }  }  ", 2);
        reads("a{up00000b,down0001c}", 3);
        reads("a{up0a{up0a{up0a{up0a{up0a{v}}}}}}", 6);
        reads("a{up0a{up0a{up0a{up0a{up0a{up0a}}}}}}", 7);
        reads("a{up0a{v},up0a{v},up0a{up0a{up0a{up0a{up0a{v}}}}}}", 8);
        faults("a{up0e}", 5);
    }

    private static void promise9ShapeStaysWithFault() {
        PaperRows x = Check.shaped("a{v}");
        x.row(0, 9, -1, -1);
        check.paper(x, 0, 10000, 9, 30000);
        check.told(x, "a shape with a fault", Check.shape(x, "a{v,v"), -6, -6);
        check.due("count(5) with a fault", x.count(5), 0);
        check.due("count(2) stays", x.count(2), 1);
        check.paper(x, 0, 10000, 9, 30000);
        check.told(x, "shape without a text", x.shape(), -6, -6);
        check.due("fault without a text", x.fault(), 0);
        check.paper(x, 0, 10000, 9, 30000);
        check.told(x, "a third shape", Check.shape(x, "a{v,v,down0b}"), 2, 0);
        check.due("fault behind a third shape", x.fault(), -1);
        check.paper(x, 0, 10000, 9, 9, 30000);
        check.told(x, "a fourth shape", Check.shape(x, "a"), 1, 0);
        check.paper(x, 0, 10000, 30000);
        check.due("shapes are no moments", x.count(4), 1);
    }

    private static String times(String text, int n) {
        StringBuilder all = new StringBuilder();
        for (int i = 0; i < n; i++) {
            all.append(text);
        }
        return all.toString();
    }

    private static void promise9Limits() {
        reads("a{" + times("up0a,", 18) + "up0b}", 20);
        reads("a{" + times("v,", 98) + "v}", 1);
        reads("a{" + times("v,", 97) + " v }", 1);
        reads(times(" ", 199) + "c", 1);
        reads("c" + times(" ", 199), 1);
        faults(times(" ", 200), 200);
        faults(times("a", 200), 0);
        reads("a{up" + times("0", 193) + "1b}", 2);
        faults("a{up1" + times("0", 193) + "b}", 4);
        faults("a{up" + times("0", 194) + "b,", 200);
        faults("a{" + times("v,", 99), 200);
        reads("a{up" + times("0", 194) + "b}", 2);
    }

    private static void promise10Fault() {
        PaperRows x = new PaperRows();
        check.due("fault ahead of any shape", x.fault(), -1);
        Check.shape(x, "e");
        check.due("fault of e", x.fault(), 0);
        check.due("fault is asked again", x.fault(), 0);
        Check.shape(x, "a");
        check.due("fault of a", x.fault(), -1);
        faults("", 0);
        faults("   ", 3);
        faults("e", 0);
        faults("ab", 0);
        faults("az", 0);
        faults("za", 0);
        faults("a`{v}", 1);
        faults("a~", 1);
        faults("a{vz}", 2);
        faults("a{up09b}", 4);
        faults("a{up0/b}", 5);
        faults("a{up0:b}", 5);
        faults("  A", 2);
        faults("a b", 2);
        faults("a}", 1);
        faults("a,", 1);
        faults("a{", 2);
        faults("a{  ", 4);
        faults("a{}", 2);
        faults("a{,v}", 2);
        faults("a{v", 3);
        faults("a{v v}", 4);
        faults("a{vv}", 2);
        faults("a{v,}", 4);
        faults("a{v,,v}", 4);
        faults("a{v}}", 4);
        faults("a{v}{v}", 4);
        faults("a{v} b", 5);
        faults("a{v{v}}", 3);
        faults("a{b}", 2);
        faults("a{u p0b}", 2);
        faults("a{upb}", 2);
        faults("a{up0bv}", 5);
        faults("a{up b}", 5);
        faults("a{up0}", 5);
        faults("a{up0", 5);
        faults("a{up", 4);
        faults("a{up2b}", 4);
        faults("a{up 10b}", 5);
        faults("a{up0 0b}", 6);
        faults("a{up 002b}", 5);
        faults("a{up-1b}", 4);
        faults("a{up0b{}}", 7);
        faults("a{up0b{v}", 9);
        faults("a{down0v}", 7);
        faults("a{Down0b}", 2);
        faults("a{downs0b}", 2);
        faults("a{dow0b}", 2);
        faults("a\t{v}", 1);
        faults("\u0000a", 0);
        faults("0", 0);
        faults("{", 0);
        faults("a0", 1);
    }

    private static void promise10FaultOfMore() {
        String twenty = "a{" + times("up0a,", 19);
        faults(twenty + "up0a}", twenty.length() + 3);
        faults(twenty + "up0 b{v}}", twenty.length() + 4);
        faults(twenty + "v,down1d}", twenty.length() + 7);
        faults(twenty + "up2a}", twenty.length() + 2);
        String six = times("a{up0", 6) + "a";
        faults(six + "{v}" + times("}", 6), six.length());
        faults(six + " {", six.length() + 1);
        faults(six + times("}", 7), six.length() + 6);
        reads(times("a{up0", 5) + "a{v},up1b{up0a}" + times("}", 5), 8);
    }
}
