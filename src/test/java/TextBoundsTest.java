/** Term II and promises 7 to 10: each sentence that names a bound, from both of its sides. */
public final class TextBoundsTest {
    private static final Check check = new Check("TextBoundsTest");
    private static final int LEAST = Integer.MIN_VALUE;
    private static final int MOST = Integer.MAX_VALUE;
    private static final int BLANKS = 0x20202020;

    public static void main(String[] args) {
        textOf200Bytes();
        anyBlanksBetweenTokens();
        onlyByte32IsBlank();
        tokensAreTheLongestRows();
        otherBytesAreTokensByThemselves();
        partWithAndWithoutItems();
        tablesAToD();
        itemsAlone();
        referencesThatMake0Or1();
        referencesThatMakeOthers();
        atMost20Parts();
        atMost6Braces();
        bracesSideBySide();
        theFirstOfManyFaults();
        faultAtTheEnd();
        promise7HighestFirst();
        promise7NumbersOfAnySize();
        promise7NoMoreThan200();
        promise8FirstBytesAlone();
        promise8None();
        promise9TapeIsEmptyThen();
        promise9ItStays();
        promise9NoText();
        promise10NoneWithout();
        check.close();
    }

    private static String times(String text, int n) {
        StringBuilder all = new StringBuilder();
        for (int i = 0; i < n; i++) {
            all.append(text);
        }
        return all.toString();
    }

    /** The text is read, and a shape that stood there before is not in the way. */
    private static void reads(String text, int parts) {
        PaperRows x = Check.shaped("d{v,v}");
        check.told(x, "shape of '" + text + "'", Check.shape(x, text), parts, 0);
        check.due("fault of '" + text + "'", x.fault(), -1);
        check.due("count(2) of '" + text + "'", x.count(2), parts);
        check.due("count(5) of '" + text + "'", x.count(5), 0);
    }

    /** The text can't be; what stood there before stays. */
    private static void faults(String text, int place) {
        PaperRows x = Check.shaped("d{v,up0d}");
        check.told(x, "shape of '" + text + "'", Check.shape(x, text), -6, -6);
        check.due("fault of '" + text + "'", x.fault(), place);
        check.due("count(2) of '" + text + "'", x.count(2), 2);
        check.due("count(5) of '" + text + "'", x.count(5), 0);
    }

    // "a TEXT of at most 200 bytes"
    private static void textOf200Bytes() {
        reads("a{" + times("v,", 98) + "v}", 1);
        faults("a{" + times("v,", 98) + "v", 199);
        reads(times(" ", 199) + "a", 1);
        reads("a" + times(" ", 199), 1);
        reads(times(" ", 198) + "a", 1);
        faults(times(" ", 199) + "e", 199);
        faults(times(" ", 199) + "{", 199);
        faults("a" + times(" ", 198) + "a", 199);
        faults(times("z", 200), 0);
        faults("a{" + times("v,", 99), 200);
        faults("a{" + times("v,", 98) + "v,", 200);
        // A token that ends with the 200th byte is as long as any other.
        faults(times(" ", 198) + "aa", 198);
        faults(times(" ", 199) + "z", 199);
        faults("a{" + times(" ", 196) + "up", 200);
        faults("a{" + times(" ", 195) + "vup", 197);
        faults("a{up" + times(" ", 194) + "01", 200);
        faults("a{up" + times(" ", 194) + "02", 198);
        faults("a{up" + times("0", 195) + "1", 200);
        faults("a{up0" + times(" ", 194) + "b", 200);
        PaperRows x = Check.shaped("a{" + times("v,", 98) + "v}");
        x.row(0, 3, -1, -1);
        check.due("size of 99 values", x.size(0), 101);
        check.due("the last of them", x.mark(0, 99), 3);
        check.due("the end behind them", x.mark(0, 100), 30000);
    }

    // "any blanks (32) between TOKENS"
    private static void anyBlanksBetweenTokens() {
        String[] tokens = {"a", "{", "v", ",", "up", "0", "b", "{", "v", "}", ",", "down", "01", "c", "}"};
        for (int blanks = 0; blanks <= 12; blanks++) {
            StringBuilder text = new StringBuilder(times(" ", blanks));
            for (String token : tokens) {
                text.append(token).append(times(" ", blanks));
            }
            if (text.length() <= 200) {
                reads(text.toString(), 3);
            }
        }
        for (int at = 0; at <= tokens.length; at++) {
            StringBuilder text = new StringBuilder();
            for (int i = 0; i < tokens.length; i++) {
                text.append(i == at ? " " : "").append(tokens[i]);
            }
            reads(text.append(at == tokens.length ? " " : "").toString(), 3);
        }
        // Within a token a blank parts it.
        faults("a{u p0b}", 2);
        faults("a{d own0b}", 2);
        faults("a{up0 1b}", 6);
        faults("a{up0 0b}", 6);
        faults("a{v v}", 4);
    }

    private static void onlyByte32IsBlank() {
        for (int one = 0; one < 256; one++) {
            if (one == 32) {
                reads("a" + (char) one, 1);
                reads((char) one + "a", 1);
                reads("a{v" + (char) one + "}", 1);
            } else {
                boolean letter = one >= 'a' && one <= 'z';
                faults("a" + (char) one, one == '{' ? 2 : letter ? 0 : 1);
                faults((char) one + "a", 0);
                faults("a{v" + (char) one + "}", placeBehindV(one));
            }
        }
    }

    private static int placeBehindV(int one) {
        boolean letter = one >= 'a' && one <= 'z';
        return letter ? 2 : one == ',' || one == '}' ? 4 : 3;
    }

    // "TOKENS (longest rows of letters a .. z, of digits, single other bytes)"
    private static void tokensAreTheLongestRows() {
        faults("aa", 0);
        faults("az", 0);
        faults("da", 0);
        faults("a`", 1);
        faults("aA", 1);
        faults("aZ", 1);
        faults("a{va}", 2);
        faults("a{vv}", 2);
        faults("a{upb}", 2);
        faults("a{updown0b}", 2);
        faults("a{upz0b}", 2);
        faults("a{upa0b}", 2);
        faults("a{up`0b}", 4);
        faults("a{up0bb}", 5);
        faults("a{up0/b}", 5);
        faults("a{up0:b}", 5);
        faults("a{up/b}", 4);
        faults("a{up:b}", 4);
        faults("a{up09b}", 4);
        faults("a{up90b}", 4);
        faults("a0", 1);
        faults("0a", 0);
        faults("a{v0}", 3);
        faults("a{0v}", 2);
        reads("a{up0b}", 2);
        reads("a{up0b,down1d}", 3);
    }

    private static void otherBytesAreTokensByThemselves() {
        faults("a{{v}}", 2);
        faults("a{v}}", 4);
        faults("a{v,,v}", 4);
        faults("a{v},", 4);
        faults("a{v}{v}", 4);
        faults("{{", 0);
        faults("a??", 1);
        faults("a{?}", 2);
        reads("a{up0b{v}}", 2);
        reads("a{v,up0b{v},v}", 2);
        for (int one : new int[] {128, 129, 193, 223, 225, 250, 255}) {
            faults("a{v,up0" + (char) one + "}", 7);
        }
    }

    // "PART: TABLE ["{" ITEM {"," ITEM} "}"]"
    private static void partWithAndWithoutItems() {
        reads("a", 1);
        reads("a{v}", 1);
        reads("a{v,v}", 1);
        reads("a{up0b}", 2);
        faults("a{}", 2);
        faults("a{", 2);
        faults("a}", 1);
        faults("a,", 1);
        faults("a,v", 1);
        faults("a{,}", 2);
        faults("a{,v}", 2);
        faults("a{v,}", 4);
        faults("a{v", 3);
        faults("a{v,", 4);
        faults("a{v,v", 5);
        faults("a{v;v}", 3);
        faults("{v}", 0);
        faults("v", 0);
        faults("a{up0b{}}", 7);
        faults("a{up0{v}}", 5);
        faults("a a", 2);
        faults("a{v} v", 5);
        faults("a{v} {", 5);
    }

    // "TABLE: a, b, c, d."
    private static void tablesAToD() {
        for (char table = 'a'; table <= 'd'; table++) {
            reads("" + table, 1);
            reads("a{up0" + table + "}", 2);
            reads("a{down1" + table + "{v}}", 2);
        }
        for (char other : "`e{zABCDE0".toCharArray()) {
            faults("" + other, 0);
            faults("a{up0 " + other + "}", 6);
            faults("a{down1 " + other + "{v}}", 8);
        }
        faults("aa", 0);
        faults("abcd", 0);
    }

    // "ITEM: "v" | ("up" | "down") REFERENCE PART."
    private static void itemsAlone() {
        reads("a{v}", 1);
        reads("a{up0a}", 2);
        reads("a{down0a}", 2);
        for (String word : new String[] {"w", "u", "p", "d", "a", "vs", "upp", "uup", "dow", "own", "downn", "downs", "pu", "nwod", "V", "UP", "Down"}) {
            faults("a{" + word + "0b}", 2);
            faults("a{v," + word + "}", 4);
        }
        faults("a{up}", 4);
        faults("a{up b}", 5);
        faults("a{down,v}", 6);
        faults("a{up0}", 5);
        faults("a{up0,v}", 5);
        faults("a{down0 v}", 8);
        faults("a{v0b}", 3);
        faults("a{v b}", 4);
        faults("a{v{v}}", 3);
    }

    // "REFERENCE: digits that make 0 or 1 (noughts ahead as well)."
    private static void referencesThatMake0Or1() {
        for (int noughts : new int[] {0, 1, 2, 9, 10, 19, 20, 100, 193}) {
            for (int r = 0; r <= 1; r++) {
                String text = "a{up" + times("0", noughts) + r + "b}";
                reads(text, 2);
                PaperRows x = Check.shaped(text);
                x.row(1, 0, -1, -1);
                x.row(1, 0, -1, -1);
                x.row(0, 0, 0, 1);
                check.paper(x, 2, 10002, 10000 + r, 30000, 30000);
            }
        }
        reads("a{up" + times("0", 193) + "1b}", 2);
    }

    private static void referencesThatMakeOthers() {
        // Some make 0 or 1 once they have run over an int or a long.
        String[] others = {"2", "9", "10", "11", "02", "010", "0011", "100", "4294967295", "4294967296", "4294967297", "8589934592",
            "18446744073709551615", "18446744073709551616", "18446744073709551617", "2147483648", "9999999999999999999999",
            "340282366920938463463374607431768211456", times("0", 190) + "2", times("0", 189) + "10", "1" + times("0", 190)};
        for (String digits : others) {
            faults("a{up" + digits + "b}", 4);
            faults("a{down " + digits + "b}", 7);
        }
        faults("a{up-0b}", 4);
        faults("a{up+1b}", 4);
        faults("a{up0.0b}", 5);
        faults("a{up\u00b9b}", 4);
    }

    // "At most 20 PARTS ... (FAULT at the first TOKEN of one more)"
    private static void atMost20Parts() {
        reads("a{" + times("up0b,", 17) + "up0b}", 19);
        reads("a{" + times("up0b,", 18) + "up0b}", 20);
        String full = "a{" + times("up0b,", 19);
        faults(full + "up0b}", full.length() + 3);
        faults(full + "down1   c{v}}", full.length() + 8);
        faults(full + "up0e}", full.length() + 3);
        faults(full + "up2b}", full.length() + 2);
        faults(full + "v,up0b,v", full.length() + 5);
        reads("a{" + times("up0b,", 18) + "up0b{v},v,v}", 20);
        // One in another as well as one behind another.
        reads("a{" + times("up0b{up0c},", 9) + "up1d}", 20);
        String nested = "a{" + times("up0b{up0c},", 9) + "up1d";
        faults(nested + "{up0a}}", nested.length() + 4);
        faults(nested + ",up0a}", nested.length() + 4);
    }

    // "6 "{" within one another (FAULT at the first TOKEN of one more)"
    private static void atMost6Braces() {
        reads(times("a{up0", 5) + "a" + times("}", 5), 6);
        reads(times("a{up0", 5) + "a{v}" + times("}", 5), 6);
        reads(times("a{up0", 6) + "a" + times("}", 6), 7);
        String six = times("a{up0", 6) + "a";
        faults(six + "{v}" + times("}", 6), six.length());
        faults(six + "   {v}" + times("}", 6), six.length() + 3);
        faults(six + "{", six.length());
        faults(six + "{{", six.length());
        faults(six, six.length());
        String mixed = "d { v , down 1 c { up 0 b{v,up 1 a {v,v,up0d{down1c{v,up0b";
        reads(mixed + "}}}}}}", 7);
        faults(mixed + "{v}}}}}}}", mixed.length());
    }

    private static void bracesSideBySide() {
        reads("a{" + times("up0b{v},", 17) + "up0b{v}}", 19);
        reads(times("a{up0", 4) + "a{up0a{v},up1a{v},up0a{v}},up1a{up0a{v}}" + times("}", 4), 10);
        reads(times("a{up0", 5) + "a{v},up1b{v},down0c{v,v}" + times("}", 5), 8);
        String more = times("a{up0", 5) + "a{v},up1b{up0b";
        reads(more + times("}", 6), 8);
        faults(more + "{v}" + times("}", 6), more.length());
    }

    // "FAULT: the first TOKEN that can't go on there", where there are more than one
    private static void theFirstOfManyFaults() {
        faults("e{?", 0);
        faults("a{up2e}", 4);
        faults("a{up0e?", 5);
        faults("a{v?}}", 3);
        faults("a?" + times(" ", 197) + "?", 1);
        // 20 PARTS, the last of them in six braces: one part more, one brace more.
        String full = "a{" + times("up0b,", 13) + times("up0a{", 5) + "up0b";
        reads(full + times("}", 6), 20);
        faults(full + "{up0b}" + times("}", 6), full.length());
        faults(full + ",up0b{v}" + times("}", 6), full.length() + 4);
        // Nineteen only: the seventh "{" comes ahead of the part that would be one more.
        String less = "a{" + times("up0b,", 12) + times("up0a{", 5) + "up0b";
        faults(less + "{up0b,up0b}" + times("}", 6), less.length());
        reads(less + ",up1b" + times("}", 6), 20);
    }

    // "the first TOKEN that can't go on there (the end's: the TEXT's length)"
    private static void faultAtTheEnd() {
        String whole = "a{v,up0b{v,down1c},v}";
        for (int length = 0; length < whole.length(); length++) {
            for (int blanks = 0; blanks <= 2; blanks++) {
                String text = whole.substring(0, length) + times(" ", blanks);
                if (length == 1) {
                    reads(text, 1);
                } else {
                    faults(text, cutWord(whole, length) ? wordAt(whole, length) : text.length());
                }
            }
        }
        faults(times(" ", 200), 200);
        faults(times(" ", 198) + "a{", 200);
        faults("a{" + times(" ", 198), 200);
    }

    /** Whether the text stops within one of its words, which is another word then. */
    private static boolean cutWord(String whole, int length) {
        String before = whole.substring(0, length);
        return before.endsWith("u") || before.endsWith("d") || before.endsWith("do") || before.endsWith("dow");
    }

    private static int wordAt(String whole, int length) {
        int at = length;
        while (at > 0 && Character.isLetter(whole.charAt(at - 1))) {
            at--;
        }
        return at;
    }

    // "four of each number, the highest first"
    private static void promise7HighestFirst() {
        PaperRows x = new PaperRows();
        check.due("feed of a text", x.feed(0x617b762c, 0x75703062, 0x7b767d7d, BLANKS, BLANKS), 20);
        check.due("shape of it", x.shape(), 2);
        for (int place = 0; place < 20; place++) {
            int[] n = {BLANKS, BLANKS, BLANKS, BLANKS, BLANKS};
            n[place / 4] += ('?' - ' ') << (24 - 8 * (place % 4));
            check.due("feed of a text with a fault", x.feed(n[0], n[1], n[2], n[3], n[4]), 20);
            check.due("shape of byte " + place, x.shape(), -6);
            check.due("fault of byte " + place, x.fault(), place);
        }
    }

    private static void promise7NumbersOfAnySize() {
        for (int number : new int[] {0, -1, 1, LEAST, MOST, -128, 128, 255, 256}) {
            PaperRows x = new PaperRows();
            check.due("feed of " + number, x.feed(BLANKS, number, number, number, number), 20);
            check.due("end(20) of " + number, x.end(20), 20);
            check.due("shape of " + number, x.shape(), -6);
            check.due("fault of " + number, x.fault(), 4);
            x.feed(number, number, number, number, number);
            check.due("shape of it alone", x.shape(), -6);
            check.due("fault of it alone", x.fault(), 0);
            check.due("feed of a text behind it", x.feed(0x62202020, BLANKS, BLANKS, BLANKS, BLANKS), 20);
            check.due("shape of that", x.shape(), 1);
        }
    }

    // "NONE, if there would be more than 200"
    private static void promise7NoMoreThan200() {
        PaperRows x = new PaperRows();
        for (int bytes = 20; bytes <= 200; bytes += 20) {
            check.due("feed up to " + bytes, x.feed(BLANKS, BLANKS, BLANKS, BLANKS, BLANKS), bytes);
        }
        check.due("feed beyond 200", x.feed(-1, -1, -1, -1, -1), -1);
        check.due("count(5) stays", x.count(5), 200);
        for (int bytes = 199; bytes > 180; bytes--) {
            check.due("end(" + bytes + ")", x.end(bytes), bytes);
            check.due("feed behind " + bytes, x.feed(-1, -1, -1, -1, -1), -1);
            check.due("count(5) stays", x.count(5), bytes);
        }
        check.due("end(180)", x.end(180), 180);
        check.due("feed behind 180", x.feed(BLANKS, BLANKS, BLANKS, BLANKS, 0x20202061), 200);
        check.due("shape of 200 bytes", x.shape(), 1);
        check.due("feed behind a shape", x.feed(0, 0, 0, 0, 0), 20);
        // What was refused has left no byte behind.
        PaperRows y = new PaperRows();
        for (int i = 0; i < 10; i++) {
            y.feed(BLANKS, BLANKS, BLANKS, BLANKS, BLANKS);
        }
        y.end(181);
        y.feed(-1, -1, -1, -1, -1);
        check.due("shape of 181 blanks", y.shape(), -6);
        check.due("fault of 181 blanks", y.fault(), 181);
    }

    // "The TAPE has its first n bytes alone: n."
    private static void promise8FirstBytesAlone() {
        for (int n = 0; n <= 20; n++) {
            PaperRows x = new PaperRows();
            x.feed(0x617b7d7d, 0x7d7d7d7d, 0x7d7d7d7d, 0x7d7d7d7d, 0x7d7d7d7d);
            check.due("end(" + n + ")", x.end(n), n);
            check.due("count(5)", x.count(5), n);
            check.due("end(" + n + ") again", x.end(n), n);
            check.due("end(" + (n + 1) + ") of fewer", x.end(n + 1), -1);
            check.due("feed behind them", x.feed(BLANKS, BLANKS, BLANKS, BLANKS, BLANKS), n + 20);
            check.due("shape", x.shape(), n == 1 ? 1 : -6);
            check.due("fault", x.fault(), n == 1 ? -1 : n == 0 ? 20 : n == 2 ? 22 : 2);
        }
        PaperRows full = new PaperRows();
        for (int i = 0; i < 10; i++) {
            full.feed(0, 0, 0, 0, 0);
        }
        check.due("end(201) of 200", full.end(201), -1);
        check.due("end(200) of 200", full.end(200), 200);
        check.due("end(199) of 200", full.end(199), 199);
        check.due("end(200) of 199", full.end(200), -1);
        check.due("end(0) of 199", full.end(0), 0);
        check.due("end(1) of 0", full.end(1), -1);
    }

    // "NONE, if it has not so many, or n is below 0."
    private static void promise8None() {
        PaperRows x = new PaperRows();
        check.due("end(0) of an empty tape", x.end(0), 0);
        for (int n : new int[] {1, 20, 200, 201, MOST, -1, -20, LEAST}) {
            check.due("end(" + n + ") of an empty tape", x.end(n), -1);
        }
        x.feed(0x61202020, BLANKS, BLANKS, BLANKS, BLANKS);
        for (int n : new int[] {21, 200, MOST, -1, -20, LEAST}) {
            check.due("end(" + n + ") of 20", x.end(n), -1);
            check.due("count(5) stays", x.count(5), 20);
        }
        check.due("shape of all 20", x.shape(), 1);
        check.due("end(1) behind a shape", x.end(1), -1);
        check.due("end(0) behind a shape", x.end(0), 0);
        check.due("count(2) stays", x.count(2), 1);
    }

    // "The TAPE, which is empty then, becomes the SHAPE: how many PARTS."
    private static void promise9TapeIsEmptyThen() {
        PaperRows x = new PaperRows();
        check.due("shape of a", Check.shape(x, "a"), 1);
        check.due("count(5) behind a shape", x.count(5), 0);
        check.told(x, "shape at once again", x.shape(), -6, -6);
        check.due("count(2) stays", x.count(2), 1);
        check.due("shape of a fault", Check.shape(x, "a{v,up0b{"), -6);
        check.due("count(5) behind a fault", x.count(5), 0);
        check.due("feed behind a fault", x.feed(0x62202020, BLANKS, BLANKS, BLANKS, BLANKS), 20);
        check.told(x, "shape behind a fault", x.shape(), 1, 0);
        x.row(1, 5, -1, -1);
        check.paper(x, 0, 10000, 30000);
    }

    // "-6: it stays (with a FAULT the TAPE is empty, too), FAULT is told."
    private static void promise9ItStays() {
        PaperRows x = Check.shaped("a{v,down0b{v},v}");
        x.row(0, 1, -1, -1);
        x.row(1, 2, 0, -1);
        String[] texts = {"", " ", "a{v,v,v,v,v", "b{v,v,up0a{v}}}", "d?", "e", "a{up0a{up0a{up0a{up0a{up0a{up0a{v}}}}}}}"};
        int[] places = {0, 1, 11, 14, 1, 0, 31};
        for (int i = 0; i < texts.length; i++) {
            check.told(x, "shape of '" + texts[i] + "'", Check.shape(x, texts[i]), -6, -6);
            check.due("fault of '" + texts[i] + "'", x.fault(), places[i]);
            check.due("count(2) stays", x.count(2), 2);
            check.due("count(5)", x.count(5), 0);
            check.paper(x, 0, 10000, 1, 10001, 2, 30000, 1, 30000);
        }
        // Without any shape there is none to stay.
        PaperRows y = new PaperRows();
        y.row(0, 1, -1, -1);
        check.due("a first shape with a fault", Check.shape(y, "a{v"), -6);
        check.due("count(2) without a shape", y.count(2), 0);
        check.paper(y, 0);
    }

    // "-6 a text that can't be, or there is none"
    private static void promise9NoText() {
        PaperRows x = new PaperRows();
        check.told(x, "shape without a text", x.shape(), -6, -6);
        check.due("fault without a text", x.fault(), 0);
        x.feed(0x61202020, BLANKS, BLANKS, BLANKS, BLANKS);
        x.end(0);
        check.told(x, "shape of an ended text", x.shape(), -6, -6);
        check.due("fault of an ended text", x.fault(), 0);
    }

    // "FAULT of the latest shape(): its place; NONE without."
    private static void promise10NoneWithout() {
        PaperRows x = new PaperRows();
        check.due("fault ahead of any shape", x.fault(), -1);
        x.feed(0x3f202020, 0, 0, 0, 0);
        check.due("fault behind feed", x.fault(), -1);
        check.due("shape of ?", x.shape(), -6);
        check.due("fault of ?", x.fault(), 0);
        check.due("shape of a?", Check.shape(x, "a?"), -6);
        check.due("fault of a?", x.fault(), 1);
        x.feed(0x61202020, 0, 0, 0, 0);
        x.end(1);
        x.row(9, 0, 0, 0);
        check.due("fault stays up to the next shape", x.fault(), 1);
        check.due("shape of a", x.shape(), 1);
        check.due("fault of a", x.fault(), -1);
        check.due("shape without a text", x.shape(), -6);
        check.due("fault without a text", x.fault(), 0);
    }
}
