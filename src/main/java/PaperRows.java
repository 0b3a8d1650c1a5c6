/** Rows of tables, gathered into nested papers that readers hold and may edit. README.md tells how to use it. */
public final class PaperRows {
    public static final int NONE = -1;

    private static final int NOTHING = -5000;
    private static final int HOW_MANY = -1;

    private static final int BAD_NUMBER = -1;
    private static final int NO_SUCH = -2;
    private static final int NO_EDIT = -3;
    private static final int NO_ROOM = -5;
    private static final int NO_TEXT = -6;

    private static final int TABLES = 4;
    private static final int HIGHEST_VALUE = 1000;
    private static final int MOST_ROWS = 60;
    private static final int MOST_MOMENTS = 300;
    private static final int MOST_READERS = 10;
    private static final int MOST_MARKS = 600;
    private static final int MOST_IN_PAGE = 100;

    private static final int MOST_BYTES = 200;
    private static final int BYTES_FED = 20;
    private static final int BYTES_OF_NUMBER = 4;
    private static final int MOST_PARTS = 20;
    private static final int MOST_BRACES = 6;
    // Every item has a sign behind it, so no text has more than half its bytes of them.
    private static final int MOST_ITEMS = MOST_BYTES / 2;

    private static final int ITEM_VALUE = 0;
    private static final int ITEM_UP = 1;
    private static final int ITEM_DOWN = 2;

    private static final int BEGINS = 10_000;
    private static final int STANDS_ALREADY = 20_000;
    private static final int ENDS = 30_000;

    private final Rows now = new Rows();
    private final History history = new History();
    private final Tape tape = new Tape();
    private final Reader[] readers = new Reader[MOST_READERS];
    private Shape shape = new Shape();
    private int readerCount = 0;
    private int sendings = 0;
    private int fault = NONE;
    private int status = 0;

    // Kept to be used again: what is made is never given back.
    private Shape spareShape = new Shape();
    private final Rows then = new Rows();
    private final Paper paper = new Paper();
    private final Paper otherPaper = new Paper();

    public PaperRows() {
    }

    public int row(int table, int value, int r0, int r1) {
        if (table < 0 || table >= TABLES || !isValue(value)) {
            return refused(BAD_NUMBER);
        }
        if (!canBeReferredTo(r0) || !canBeReferredTo(r1)) {
            return refused(NO_SUCH);
        }
        if (now.isFull() || history.isFull()) {
            return refused(NO_ROOM);
        }
        int number = now.known();
        tell(new Row(number, table, value, r0, r1, true));
        return answered(number);
    }

    public int value(int row, int value) {
        if (!isValue(value)) {
            return refused(BAD_NUMBER);
        }
        Row old = now.standing(row);
        if (old == null) {
            return refused(NO_SUCH);
        }
        if (history.isFull()) {
            return refused(NO_ROOM);
        }
        tell(old.withValue(value));
        return answered(old.value);
    }

    public int refer(int row, int r, int to) {
        if (r != 0 && r != 1) {
            return refused(BAD_NUMBER);
        }
        Row old = now.standing(row);
        if (old == null || !canBeReferredTo(to)) {
            return refused(NO_SUCH);
        }
        if (history.isFull()) {
            return refused(NO_ROOM);
        }
        tell(old.withReference(r, to));
        return answered(0);
    }

    public int go(int row) {
        Row old = now.standing(row);
        if (old == null) {
            return refused(NO_SUCH);
        }
        if (history.isFull()) {
            return refused(NO_ROOM);
        }
        tell(old.gone());
        return answered(0);
    }

    public int of(int row, int what) {
        Row asked = now.at(row);
        if (asked == null) {
            return NOTHING;
        }
        switch (what) {
            case 0: return asked.table;
            case 1: return asked.value;
            case 2: return asked.reference0;
            case 3: return asked.reference1;
            case 4: return asked.there ? 1 : 0;
            default: return NOTHING;
        }
    }

    public int feed(int a, int b, int c, int d, int e) {
        if (tape.length() + BYTES_FED > MOST_BYTES) {
            return NONE;
        }
        tape.addNumber(a);
        tape.addNumber(b);
        tape.addNumber(c);
        tape.addNumber(d);
        tape.addNumber(e);
        return tape.length();
    }

    public int end(int n) {
        if (n < 0 || n > tape.length()) {
            return NONE;
        }
        tape.cutTo(n);
        return n;
    }

    public int shape() {
        spareShape.clear();
        Parser parser = new Parser(tape, spareShape);
        boolean fits = parser.readText();
        fault = fits ? NONE : parser.place();
        tape.cutTo(0);
        if (!fits) {
            return refused(NO_TEXT);
        }
        Shape old = shape;
        shape = spareShape;
        spareShape = old;
        return answered(shape.parts());
    }

    public int fault() {
        return fault;
    }

    public int size(int row) {
        paper.gather(shape, now, row);
        return paper.length();
    }

    public int mark(int row, int i) {
        paper.gather(shape, now, row);
        return paper.at(i);
    }

    public int page(int row, int n, int k, int i) {
        boolean asksHowMany = i == HOW_MANY;
        if (n < 1 || n > MOST_IN_PAGE || k < 0) {
            return asksHowMany ? 0 : NOTHING;
        }
        paper.gather(shape, now, row);
        // k n can be beyond what an int holds.
        long first = (long) k * n;
        long has = Math.max(0L, Math.min((long) n, paper.length() - first));
        if (asksHowMany) {
            return (int) has;
        }
        return i >= 0 && i < has ? paper.at((int) first + i) : NOTHING;
    }

    public int reader(int row) {
        if (now.standing(row) == null) {
            return refused(NO_SUCH);
        }
        if (readerCount < 0 || readerCount >= readers.length) {
            return refused(NO_ROOM);
        }
        int number = readerCount;
        readers[number] = new Reader(row);
        readerCount = number + 1;
        return answered(number);
    }

    public int send() {
        int sentTo = 0;
        for (int i = 0; i < readers.length; i++) {
            Reader one = readers[i];
            if (one == null) {
                continue;
            }
            paper.gather(shape, now, one.row);
            if (!paper.hasMarksOf(one.held)) {
                one.held.takeFrom(paper);
                sentTo |= 1 << i;
                sendings++;
            }
        }
        return sentTo;
    }

    public int holds(int reader, int i) {
        Reader one = readerAt(reader);
        if (one == null) {
            return NOTHING;
        }
        return i == HOW_MANY ? one.held.length() : one.held.at(i);
    }

    public int same(int reader) {
        Reader one = readerAt(reader);
        if (one == null) {
            return NONE;
        }
        paper.gather(shape, now, one.row);
        return paper.hasMarksOf(one.held) ? 1 : 0;
    }

    public int edit(int reader, int i, int value) {
        if (!isValue(value)) {
            return refused(BAD_NUMBER);
        }
        Reader one = readerAt(reader);
        if (one == null) {
            return refused(NO_SUCH);
        }
        Row old = one.held.isValueAt(i) ? now.standing(one.held.rowAround(i)) : null;
        if (old == null || old.value != one.held.at(i)) {
            return refused(NO_EDIT);
        }
        if (history.isFull()) {
            return refused(NO_ROOM);
        }
        tell(old.withValue(value));
        one.held.put(i, value);
        return answered(old.number);
    }

    public int asOf(int moment, int row, int i) {
        then.clear();
        // A moment that was not has no rows, as moment 0 has none.
        if (moment >= 0 && moment <= history.length()) {
            history.replay(moment, then);
        }
        paper.gather(shape, then, row);
        return i == HOW_MANY ? paper.length() : paper.at(i);
    }

    public int touched(int row, int value) {
        Row old = now.standing(row);
        if (old == null || !isValue(value)) {
            return 0;
        }
        then.takeFrom(now);
        then.put(old.withValue(value));
        int touchedOnes = 0;
        for (int i = 0; i < readers.length; i++) {
            Reader one = readers[i];
            if (one != null && isOtherwiseThen(one.row)) {
                touchedOnes |= 1 << i;
            }
        }
        return touchedOnes;
    }

    public int count(int what) {
        switch (what) {
            case 0: return now.standingOnes();
            case 1: return now.known();
            case 2: return shape.parts();
            case 3: return readerCount;
            case 4: return history.length();
            case 5: return tape.length();
            case 6: return sendings;
            default: return NONE;
        }
    }

    public int status() {
        return status;
    }

    private int refused(int by) {
        status = by;
        return by;
    }

    private int answered(int answer) {
        status = 0;
        return answer;
    }

    private static boolean isValue(int value) {
        return value >= -HIGHEST_VALUE && value <= HIGHEST_VALUE;
    }

    private boolean canBeReferredTo(int row) {
        return row == NONE || now.standing(row) != null;
    }

    private void tell(Row row) {
        now.put(row);
        history.add(row);
    }

    private Reader readerAt(int number) {
        return number >= 0 && number < readers.length ? readers[number] : null;
    }

    private boolean isOtherwiseThen(int row) {
        paper.gather(shape, now, row);
        otherPaper.gather(shape, then, row);
        return !paper.hasMarksOf(otherPaper);
    }

    /** A row as it was behind one moment; it never changes, so the history can keep it. */
    private static final class Row {
        final int number;
        final int table;
        final int value;
        final int reference0;
        final int reference1;
        final boolean there;

        Row(int number, int table, int value, int reference0, int reference1, boolean there) {
            this.number = number;
            this.table = table;
            this.value = value;
            this.reference0 = reference0;
            this.reference1 = reference1;
            this.there = there;
        }

        Row withValue(int newValue) {
            return new Row(number, table, newValue, reference0, reference1, there);
        }

        Row withReference(int r, int to) {
            return new Row(number, table, value, r == 0 ? to : reference0, r == 1 ? to : reference1, there);
        }

        Row gone() {
            return new Row(number, table, value, reference0, reference1, false);
        }

        int referenceBy(int r) {
            return r == 0 ? reference0 : reference1;
        }
    }

    /** All rows as they are at one moment, by their numbers. */
    private static final class Rows {
        private final Row[] all = new Row[MOST_ROWS];
        private int known = 0;

        int known() {
            return known;
        }

        boolean isFull() {
            return known >= all.length;
        }

        Row at(int number) {
            return number >= 0 && number < all.length ? all[number] : null;
        }

        Row standing(int number) {
            Row row = at(number);
            return row != null && row.there ? row : null;
        }

        int standingOnes() {
            int found = 0;
            for (int i = 0; i < all.length; i++) {
                if (standing(i) != null) {
                    found++;
                }
            }
            return found;
        }

        void put(Row row) {
            int number = row.number;
            if (number < 0 || number >= all.length) {
                return;
            }
            all[number] = row;
            known = Math.max(known, number + 1);
        }

        void clear() {
            for (int i = 0; i < all.length; i++) {
                all[i] = null;
            }
            known = 0;
        }

        void takeFrom(Rows other) {
            for (int i = 0; i < all.length; i++) {
                all[i] = other.at(i);
            }
            known = other.known;
        }
    }

    /** What each moment made of its row. */
    private static final class History {
        private final Row[] told = new Row[MOST_MOMENTS];
        private int length = 0;

        int length() {
            return length;
        }

        boolean isFull() {
            return length >= told.length;
        }

        void add(Row row) {
            if (length < 0 || length >= told.length) {
                return;
            }
            told[length] = row;
            length++;
        }

        void replay(int moments, Rows into) {
            for (int i = 0; i < moments && i < told.length; i++) {
                Row row = told[i];
                if (row != null) {
                    into.put(row);
                }
            }
        }
    }

    private static final class Reader {
        final int row;
        final Paper held = new Paper();

        Reader(int row) {
            this.row = row;
        }
    }

    /** The bytes of a text that has not become a shape yet. */
    private static final class Tape {
        private final int[] bytes = new int[MOST_BYTES];
        private int length = 0;

        int length() {
            return length;
        }

        void addNumber(int number) {
            for (int i = BYTES_OF_NUMBER - 1; i >= 0; i--) {
                addByte((number >>> (8 * i)) & 255);
            }
        }

        private void addByte(int one) {
            if (length < 0 || length >= bytes.length) {
                return;
            }
            bytes[length] = one;
            length++;
        }

        void cutTo(int bytesLeft) {
            length = Math.max(0, Math.min(length, bytesLeft));
        }

        /** NONE behind the end. */
        int byteAt(int place) {
            return place >= 0 && place < length && place < bytes.length ? bytes[place] : NONE;
        }
    }

    /** Parts and their items, both in the order of the text; an item knows the part whose braces it is in. */
    private static final class Shape {
        private final int[] tables = new int[MOST_PARTS];
        private final int[] owners = new int[MOST_ITEMS];
        private final int[] kinds = new int[MOST_ITEMS];
        private final int[] references = new int[MOST_ITEMS];
        private final int[] partsWithin = new int[MOST_ITEMS];
        private int parts = 0;
        private int items = 0;

        int parts() {
            return parts;
        }

        int items() {
            return items;
        }

        void clear() {
            parts = 0;
            items = 0;
        }

        boolean hasRoomForPart() {
            return parts < tables.length;
        }

        void addPart(int table) {
            if (parts < 0 || parts >= tables.length) {
                return;
            }
            tables[parts] = table;
            parts++;
        }

        void addItem(int owner, int kind, int reference, int partWithin) {
            if (items < 0 || items >= MOST_ITEMS) {
                return;
            }
            owners[items] = owner;
            kinds[items] = kind;
            references[items] = reference;
            partsWithin[items] = partWithin;
            items++;
        }

        /** NONE where there is no such part. */
        int tableOf(int part) {
            return part >= 0 && part < parts && part < tables.length ? tables[part] : NONE;
        }

        private boolean isItem(int item) {
            return item >= 0 && item < items && item < MOST_ITEMS;
        }

        int ownerOf(int item) {
            return isItem(item) ? owners[item] : NONE;
        }

        int kindOf(int item) {
            return isItem(item) ? kinds[item] : NONE;
        }

        int referenceOf(int item) {
            return isItem(item) ? references[item] : NONE;
        }

        int partWithin(int item) {
            return isItem(item) ? partsWithin[item] : NONE;
        }
    }

    /** Reads a tape into a shape, and stays at the first token that can't go on there. */
    private static final class Parser {
        private final Tape tape;
        private final Shape shape;
        private int start = 0;
        private int past = 0;

        Parser(Tape tape, Shape shape) {
            this.tape = tape;
            this.shape = shape;
        }

        /** Where the token begins that is looked at; the text's length at its end. */
        int place() {
            return start;
        }

        boolean readText() {
            advance();
            return readPart(0) && isAtEnd();
        }

        private boolean readPart(int braces) {
            int table = tableHere();
            if (table == NONE || !shape.hasRoomForPart()) {
                return false;
            }
            int part = shape.parts();
            shape.addPart(table);
            advance();
            if (!isSign('{')) {
                return true;
            }
            if (braces >= MOST_BRACES) {
                return false;
            }
            advance();
            return readItems(part, braces + 1);
        }

        private boolean readItems(int part, int braces) {
            for (int i = 0; i < MOST_ITEMS; i++) {
                if (!readItem(part, braces)) {
                    return false;
                }
                boolean isLast = isSign('}');
                if (!isLast && !isSign(',')) {
                    return false;
                }
                advance();
                if (isLast) {
                    return true;
                }
            }
            return false;
        }

        private boolean readItem(int owner, int braces) {
            if (isWord("v")) {
                shape.addItem(owner, ITEM_VALUE, NONE, NONE);
                advance();
                return true;
            }
            boolean isUp = isWord("up");
            if (!isUp && !isWord("down")) {
                return false;
            }
            advance();
            int reference = referenceHere();
            if (reference == NONE) {
                return false;
            }
            advance();
            // The part that comes next gets the next number.
            shape.addItem(owner, isUp ? ITEM_UP : ITEM_DOWN, reference, shape.parts());
            return readPart(braces);
        }

        private void advance() {
            start = past;
            while (start < MOST_BYTES && tape.byteAt(start) == ' ') {
                start++;
            }
            int first = tape.byteAt(start);
            past = first == NONE ? start : start + 1;
            boolean letters = isLetter(first);
            boolean digits = isDigit(first);
            while (past < MOST_BYTES && (letters && isLetter(tape.byteAt(past))
                    || digits && isDigit(tape.byteAt(past)))) {
                past++;
            }
        }

        private boolean isAtEnd() {
            return start >= tape.length();
        }

        private static boolean isLetter(int one) {
            return one >= 'a' && one <= 'z';
        }

        private static boolean isDigit(int one) {
            return one >= '0' && one <= '9';
        }

        private boolean isSign(char sign) {
            return tape.byteAt(start) == sign;
        }

        private boolean isWord(String word) {
            if (past - start != word.length()) {
                return false;
            }
            for (int i = 0; i < word.length(); i++) {
                if (tape.byteAt(start + i) != word.charAt(i)) {
                    return false;
                }
            }
            return true;
        }

        private int tableHere() {
            int table = tape.byteAt(start) - 'a';
            return past - start == 1 && table >= 0 && table < TABLES ? table : NONE;
        }

        private int referenceHere() {
            for (int i = start; i < past - 1 && i < MOST_BYTES; i++) {
                if (tape.byteAt(i) != '0') {
                    return NONE;
                }
            }
            int last = tape.byteAt(past - 1) - '0';
            return isDigit(tape.byteAt(start)) && (last == 0 || last == 1) ? last : NONE;
        }
    }

    private static final class Paper {
        private final int[] marks = new int[MOST_MARKS];
        private int length = 0;
        // A bit for each row that stands here as a beginning: 60 fit into a long.
        private long begun = 0L;

        int length() {
            return length;
        }

        int at(int i) {
            return i >= 0 && i < length && i < marks.length ? marks[i] : NOTHING;
        }

        boolean isValueAt(int i) {
            return isValue(at(i));
        }

        void put(int i, int mark) {
            if (i >= 0 && i < length && i < marks.length) {
                marks[i] = mark;
            }
        }

        boolean hasMarksOf(Paper other) {
            if (length != other.length) {
                return false;
            }
            for (int i = 0; i < length && i < MOST_MARKS; i++) {
                if (at(i) != other.at(i)) {
                    return false;
                }
            }
            return true;
        }

        void takeFrom(Paper other) {
            length = other.length;
            for (int i = 0; i < length && i < marks.length; i++) {
                marks[i] = other.at(i);
            }
        }

        /** The row whose beginning stands ahead of mark i without its end between them. */
        int rowAround(int i) {
            int ended = 0;
            for (int k = Math.min(Math.max(i, 0), length) - 1; k >= 0; k--) {
                int mark = at(k);
                if (mark == ENDS) {
                    ended++;
                } else if (mark >= BEGINS && mark < STANDS_ALREADY) {
                    if (ended == 0) {
                        return mark - BEGINS;
                    }
                    ended--;
                }
            }
            return NONE;
        }

        void gather(Shape shape, Rows rows, int number) {
            length = 0;
            begun = 0L;
            Row row = rows.standing(number);
            if (row != null && row.table == shape.tableOf(0)) {
                addPart(shape, rows, 0, row, 0);
            }
        }

        private void addPart(Shape shape, Rows rows, int part, Row row, int depth) {
            if (depth > MOST_BRACES || isFull()) {
                return;
            }
            long bit = 1L << row.number;
            if ((begun & bit) != 0L) {
                add(STANDS_ALREADY + row.number);
                return;
            }
            begun |= bit;
            add(BEGINS + row.number);
            int items = shape.items();
            for (int item = 0; item < items; item++) {
                int kind = shape.ownerOf(item) == part ? shape.kindOf(item) : NONE;
                if (kind == ITEM_VALUE) {
                    add(row.value);
                } else if (kind == ITEM_UP) {
                    addUp(shape, rows, item, row, depth);
                } else if (kind == ITEM_DOWN) {
                    addDown(shape, rows, item, row, depth);
                }
            }
            add(ENDS);
        }

        private void addUp(Shape shape, Rows rows, int item, Row row, int depth) {
            int part = shape.partWithin(item);
            Row to = rows.standing(row.referenceBy(shape.referenceOf(item)));
            if (to != null && to.table == shape.tableOf(part)) {
                addPart(shape, rows, part, to, depth + 1);
            }
        }

        private void addDown(Shape shape, Rows rows, int item, Row row, int depth) {
            int part = shape.partWithin(item);
            int r = shape.referenceOf(item);
            int known = rows.known();
            for (int i = 0; i < known && !isFull(); i++) {
                Row from = rows.standing(i);
                if (from != null && from.table == shape.tableOf(part) && from.referenceBy(r) == row.number) {
                    addPart(shape, rows, part, from, depth + 1);
                }
            }
        }

        private boolean isFull() {
            return length >= marks.length;
        }

        private void add(int mark) {
            if (length < 0 || length >= marks.length) {
                return;
            }
            marks[length] = mark;
            length++;
        }
    }
}
