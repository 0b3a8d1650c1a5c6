/** Counts answers that are not as due, and puts texts on a tape. */
final class Check {
    static final int NOTHING = -5000;

    private final String name;
    private int asked = 0;
    private int wrong = 0;

    Check(String name) {
        this.name = name;
    }

    void due(String call, long got, long want) {
        asked++;
        if (got != want) {
            wrong++;
            if (wrong <= 40) {
                System.out.println(name + ": " + call + " answered " + got + ", due is " + want);
            }
        }
    }

    /** The marks of a paper, all of them and none behind. */
    void paper(PaperRows x, int row, int... marks) {
        due("size(" + row + ")", x.size(row), marks.length);
        for (int i = 0; i < marks.length; i++) {
            due("mark(" + row + ", " + i + ")", x.mark(row, i), marks[i]);
        }
        due("mark behind the end", x.mark(row, marks.length), NOTHING);
        due("mark ahead of the beginning", x.mark(row, -1), NOTHING);
    }

    void held(PaperRows x, int reader, int... marks) {
        due("holds(" + reader + ", -1)", x.holds(reader, -1), marks.length);
        for (int i = 0; i < marks.length; i++) {
            due("holds(" + reader + ", " + i + ")", x.holds(reader, i), marks[i]);
        }
        due("holds behind the end", x.holds(reader, marks.length), NOTHING);
    }

    void paperAsOf(PaperRows x, int moment, int row, int... marks) {
        String call = "asOf(" + moment + ", " + row + ", ";
        due(call + "-1)", x.asOf(moment, row, -1), marks.length);
        for (int i = 0; i < marks.length; i++) {
            due(call + i + ")", x.asOf(moment, row, i), marks[i]);
        }
        due(call + "behind the end)", x.asOf(moment, row, marks.length), NOTHING);
        due(call + "-2)", x.asOf(moment, row, -2), NOTHING);
    }

    /** An answer and the status behind it. */
    void told(PaperRows x, String call, long got, long want, int status) {
        due(call, got, want);
        due("status() behind " + call, x.status(), status);
    }

    void close() {
        System.out.println(name + ": " + asked + " answers, " + wrong + " not as due");
        if (wrong != 0 || asked == 0) {
            System.exit(1);
        }
    }

    /** The numbers whose bytes are the text's, blanks behind it up to a whole feed. */
    static int[] numbers(String text) {
        int[] numbers = new int[(text.length() + 19) / 20 * 5];
        for (int i = 0; i < numbers.length * 4; i++) {
            int one = i < text.length() ? text.charAt(i) & 255 : ' ';
            numbers[i / 4] |= one << (24 - 8 * (i % 4));
        }
        return numbers;
    }

    static void put(PaperRows x, String text) {
        int[] n = numbers(text);
        for (int i = 0; i + 4 < n.length; i += 5) {
            x.feed(n[i], n[i + 1], n[i + 2], n[i + 3], n[i + 4]);
        }
        x.end(text.length());
    }

    static int shape(PaperRows x, String text) {
        put(x, text);
        return x.shape();
    }

    static PaperRows shaped(String text) {
        PaperRows x = new PaperRows();
        shape(x, text);
        return x;
    }
}
