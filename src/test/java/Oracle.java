import java.util.ArrayList;
import java.util.HashSet;
import java.util.List;
import java.util.Set;

/** The document once more, written as unlike the class as can be: every moment kept whole, papers as lists of signs. */
final class Oracle {
    private static final int NOTHING = -5000;

    static final class Line {
        int table, value;
        int[] refs = new int[2];
        boolean there = true;

        Line copy() {
            Line l = new Line();
            l.table = table;
            l.value = value;
            l.refs = refs.clone();
            l.there = there;
            return l;
        }
    }

    static final class Piece {
        char table;
        List<Object[]> items = new ArrayList<>();
    }

    static final class Sign {
        final int mark;
        final int owner;

        Sign(int mark, int owner) {
            this.mark = mark;
            this.owner = owner;
        }
    }

    static final class Holder {
        int row;
        List<Sign> held = new ArrayList<>();
    }

    static final class Fault extends RuntimeException {
        private static final long serialVersionUID = 1L;
        final int place;

        Fault(int place) {
            this.place = place;
        }
    }

    private final List<List<Line>> moments = new ArrayList<>();
    private final List<Holder> holders = new ArrayList<>();
    private StringBuilder tape = new StringBuilder();
    private Piece shape = null;
    private int parts = 0, sent = 0, fault = -1, status = 0;

    Oracle() {
        moments.add(new ArrayList<>());
    }

    private List<Line> now() {
        return moments.get(moments.size() - 1);
    }

    private List<Line> next() {
        List<Line> copy = new ArrayList<>();
        for (Line l : now()) copy.add(l.copy());
        moments.add(copy);
        return copy;
    }

    private boolean full() {
        return moments.size() == 301;
    }

    private static boolean stands(List<Line> lines, int row) {
        return row >= 0 && row < lines.size() && lines.get(row).there;
    }

    private int say(int answer, int by) {
        status = by;
        return by != 0 ? by : answer;
    }

    private static boolean okValue(int v) {
        return -1000 <= v && v <= 1000;
    }

    int row(int table, int value, int r0, int r1) {
        if (!(table == 0 || table == 1 || table == 2 || table == 3) || !okValue(value)) return say(0, -1);
        for (int r : new int[] {r0, r1}) if (r != -1 && !stands(now(), r)) return say(0, -2);
        if (now().size() == 60 || full()) return say(0, -5);
        Line l = new Line();
        l.table = table;
        l.value = value;
        l.refs[0] = r0;
        l.refs[1] = r1;
        List<Line> n = next();
        n.add(l);
        return say(n.size() - 1, 0);
    }

    int value(int row, int value) {
        if (!okValue(value)) return say(0, -1);
        if (!stands(now(), row)) return say(0, -2);
        if (full()) return say(0, -5);
        int old = now().get(row).value;
        next().get(row).value = value;
        return say(old, 0);
    }

    int refer(int row, int r, int to) {
        if (r < 0 || r > 1) return say(0, -1);
        if (!stands(now(), row) || to != -1 && !stands(now(), to)) return say(0, -2);
        if (full()) return say(0, -5);
        next().get(row).refs[r] = to;
        return say(0, 0);
    }

    int go(int row) {
        if (!stands(now(), row)) return say(0, -2);
        if (full()) return say(0, -5);
        next().get(row).there = false;
        return say(0, 0);
    }

    int of(int row, int what) {
        if (row < 0 || row >= now().size() || what < 0 || what > 4) return NOTHING;
        Line l = now().get(row);
        return new int[] {l.table, l.value, l.refs[0], l.refs[1], l.there ? 1 : 0}[what];
    }

    int feed(int a, int b, int c, int d, int e) {
        if (tape.length() > 180) return -1;
        for (int n : new int[] {a, b, c, d, e})
            for (byte one : java.nio.ByteBuffer.allocate(4).putInt(n).array()) tape.append((char) (one & 255));
        return tape.length();
    }

    int end(int n) {
        if (n < 0 || n > tape.length()) return -1;
        tape.delete(n, tape.length());
        return n;
    }

    private List<String> tokens;
    private List<Integer> places;
    private int at, partsRead;

    int shape() {
        String text = tape.toString();
        tape = new StringBuilder();
        tokens = new ArrayList<>();
        places = new ArrayList<>();
        java.util.regex.Matcher m = java.util.regex.Pattern.compile("[a-z]+|[0-9]+|[^ ]", java.util.regex.Pattern.DOTALL).matcher(text);
        while (m.find()) {
            tokens.add(m.group());
            places.add(m.start());
        }
        tokens.add("");
        places.add(text.length());
        at = 0;
        partsRead = 0;
        try {
            Piece p = piece(0);
            if (at != tokens.size() - 1) throw bad();
            shape = p;
            parts = partsRead;
            fault = -1;
            return say(parts, 0);
        } catch (Fault f) {
            fault = f.place;
            return say(0, -6);
        }
    }

    private Fault bad() {
        return new Fault(places.get(at));
    }

    private Piece piece(int open) {
        if (!tokens.get(at).matches("[abcd]") || partsRead == 20) throw bad();
        partsRead++;
        Piece p = new Piece();
        p.table = tokens.get(at++).charAt(0);
        if (!tokens.get(at).equals("{")) return p;
        if (open == 6) throw bad();
        do {
            at++;
            String word = tokens.get(at);
            if (word.equals("v")) {
                at++;
                p.items.add(new Object[] {"v"});
            } else if (word.equals("up") || word.equals("down")) {
                at++;
                if (!tokens.get(at).matches("0*[01]")) throw bad();
                int r = new java.math.BigInteger(tokens.get(at)).intValue();
                at++;
                p.items.add(new Object[] {word, r, piece(open + 1)});
            } else {
                throw bad();
            }
        } while (tokens.get(at).equals(","));
        if (!tokens.get(at).equals("}")) throw bad();
        at++;
        return p;
    }

    int fault() {
        return fault;
    }

    private List<Sign> paper(List<Line> lines, int row) {
        List<Sign> all = new ArrayList<>();
        if (shape != null && stands(lines, row) && lines.get(row).table == shape.table - 'a')
            gather(lines, shape, row, all, new HashSet<>());
        return new ArrayList<>(all.subList(0, Math.min(600, all.size())));
    }

    private void gather(List<Line> lines, Piece p, int row, List<Sign> all, Set<Integer> begun) {
        if (!begun.add(row)) {
            all.add(new Sign(20000 + row, -1));
            return;
        }
        all.add(new Sign(10000 + row, -1));
        for (Object[] item : p.items) {
            if (item[0].equals("v")) {
                all.add(new Sign(lines.get(row).value, row));
                continue;
            }
            int r = (Integer) item[1];
            Piece in = (Piece) item[2];
            List<Integer> found = new ArrayList<>();
            if (item[0].equals("up")) {
                found.add(lines.get(row).refs[r]);
            } else {
                for (int k = 0; k < lines.size(); k++) if (lines.get(k).refs[r] == row) found.add(k);
            }
            for (int k : found)
                if (stands(lines, k) && lines.get(k).table == in.table - 'a') gather(lines, in, k, all, begun);
        }
        all.add(new Sign(30000, -1));
    }

    private static int at(List<Sign> paper, int i) {
        return i < 0 || i >= paper.size() ? NOTHING : paper.get(i).mark;
    }

    private static boolean alike(List<Sign> a, List<Sign> b) {
        if (a.size() != b.size()) return false;
        for (int i = 0; i < a.size(); i++) if (a.get(i).mark != b.get(i).mark) return false;
        return true;
    }

    int size(int row) {
        return paper(now(), row).size();
    }

    int mark(int row, int i) {
        return at(paper(now(), row), i);
    }

    int page(int row, int n, int k, int i) {
        List<Integer> page = new ArrayList<>();
        if (n >= 1 && n <= 100 && k >= 0) {
            List<Sign> paper = paper(now(), row);
            for (int m = 0; m < paper.size(); m++) if (m / n == k) page.add(paper.get(m).mark);
        }
        if (i == -1) return page.size();
        return i < 0 || i >= page.size() ? NOTHING : page.get(i);
    }

    int reader(int row) {
        if (!stands(now(), row)) return say(0, -2);
        if (holders.size() == 10) return say(0, -5);
        Holder h = new Holder();
        h.row = row;
        holders.add(h);
        return say(holders.size() - 1, 0);
    }

    int send() {
        int bits = 0;
        for (int i = 0; i < holders.size(); i++) {
            Holder h = holders.get(i);
            List<Sign> p = paper(now(), h.row);
            if (!alike(p, h.held)) {
                h.held = p;
                bits += 1 << i;
                sent++;
            }
        }
        return bits;
    }

    private Holder holder(int i) {
        return i < 0 || i >= holders.size() ? null : holders.get(i);
    }

    int holds(int reader, int i) {
        Holder h = holder(reader);
        if (h == null) return NOTHING;
        return i == -1 ? h.held.size() : at(h.held, i);
    }

    int same(int reader) {
        Holder h = holder(reader);
        return h == null ? -1 : alike(h.held, paper(now(), h.row)) ? 1 : 0;
    }

    int edit(int reader, int i, int value) {
        if (!okValue(value)) return say(0, -1);
        Holder h = holder(reader);
        if (h == null) return say(0, -2);
        if (i < 0 || i >= h.held.size()) return say(0, -3);
        Sign s = h.held.get(i);
        if (s.owner == -1 || !stands(now(), s.owner) || now().get(s.owner).value != s.mark) return say(0, -3);
        if (full()) return say(0, -5);
        next().get(s.owner).value = value;
        h.held.set(i, new Sign(value, s.owner));
        return say(s.owner, 0);
    }

    int asOf(int moment, int row, int i) {
        List<Sign> p = moment < 0 || moment >= moments.size() ? new ArrayList<>() : paper(moments.get(moment), row);
        return i == -1 ? p.size() : at(p, i);
    }

    int touched(int row, int value) {
        if (!okValue(value) || !stands(now(), row)) return 0;
        List<Line> other = new ArrayList<>();
        for (Line l : now()) other.add(l.copy());
        other.get(row).value = value;
        int bits = 0;
        for (int i = 0; i < holders.size(); i++) {
            int r = holders.get(i).row;
            if (!alike(paper(now(), r), paper(other, r))) bits += 1 << i;
        }
        return bits;
    }

    int count(int what) {
        int there = 0;
        for (Line l : now()) if (l.there) there++;
        int[] all = {there, now().size(), parts, holders.size(), moments.size() - 1, tape.length(), sent};
        return what < 0 || what >= all.length ? -1 : all[what];
    }

    int status() {
        return status;
    }
}
