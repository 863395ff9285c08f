import java.util.ArrayList;
import java.util.Arrays;
import java.util.List;

/**
 * The document's words taken one by one: every answer is counted out by trying all POINTS, LINES and
 * CONICS, so that it shares no short way with ConicDesk.
 */
final class Model {
    private static final int NONE = -1;
    private static final int UNKNOWN = -2000000000;
    private static final List<Integer> PRIMES = List.of(3, 5, 7, 11, 13, 17, 19, 23);

    /** All that an image has. */
    private static final class All {
        int p = 7;
        int[][] conics = new int[6][6];
        List<Integer> marks = new ArrayList<>();
        List<Integer> tape = new ArrayList<>();
        int fault = 0;
        int faultPlace = NONE;
        int reason = 0;
        int cause = 0;

        All() {
            for (int[] conic : conics) {
                conic[0] = 1;
            }
        }

        All copy() {
            All other = new All();
            other.p = p;
            for (int k = 0; k < 6; k++) {
                other.conics[k] = conics[k].clone();
            }
            other.marks = new ArrayList<>(marks);
            other.tape = new ArrayList<>(tape);
            other.fault = fault;
            other.faultPlace = faultPlace;
            other.reason = reason;
            other.cause = cause;
            return other;
        }

        void takeActed(All other) {
            All acted = other.copy();
            p = acted.p;
            conics = acted.conics;
            marks = acted.marks;
        }
    }

    /** A plane of one prime: the triples by number, and the numbers of the POINTS on each LINE. */
    private static final class Plane {
        final int p;
        final List<int[]> triples = new ArrayList<>();
        final List<List<Integer>> pointsOn = new ArrayList<>();

        Plane(int p) {
            this.p = p;
            for (int x = 1; x >= 0; x--) {
                for (int y = 0; y < p; y++) {
                    for (int z = 0; z < p; z++) {
                        if (x == 1 || y == 1) {
                            triples.add(new int[] {x, y, z});
                        }
                    }
                }
            }
            triples.add(new int[] {0, 0, 1});
            for (int[] line : triples) {
                List<Integer> points = new ArrayList<>();
                for (int k = 0; k < triples.size(); k++) {
                    if (dot(line, triples.get(k)) == 0) {
                        points.add(k);
                    }
                }
                pointsOn.add(points);
            }
        }

        int dot(int[] one, int[] other) {
            return Math.floorMod(one[0] * other[0] + one[1] * other[1] + one[2] * other[2], p);
        }

        int numberOf(int[] triple) {
            for (int k = 0; k < triples.size(); k++) {
                for (int times = 1; times < p; times++) {
                    int[] at = triples.get(k);
                    boolean same = true;
                    for (int i = 0; i < 3; i++) {
                        same &= (long) Math.floorMod(triple[i], p) == at[i] * times % p;
                    }
                    if (same) {
                        return k;
                    }
                }
            }
            return NONE;
        }
    }

    private static final Plane[] PLANES = new Plane[24];

    private All now = new All();
    private final All[] images = new All[3];
    private final List<All> past = new ArrayList<>();

    private Plane plane() {
        if (PLANES[now.p] == null) {
            PLANES[now.p] = new Plane(now.p);
        }
        return PLANES[now.p];
    }

    private boolean conicIs(int conic) {
        return conic >= 0 && conic < 6;
    }

    private boolean pointIs(int point) {
        return point >= 0 && point < plane().triples.size();
    }

    // ---- the tape

    int feed(int... numbers) {
        if (now.tape.size() + 20 > 500) {
            return NONE;
        }
        for (int number : numbers) {
            for (int shift = 24; shift >= 0; shift -= 8) {
                now.tape.add(number >> shift & 255);
            }
        }
        return now.tape.size();
    }

    int end(int n) {
        if (n < 0 || n > now.tape.size()) {
            return NONE;
        }
        now.tape = new ArrayList<>(now.tape.subList(0, n));
        return n;
    }

    int text() {
        All draft = new All();
        StringBuilder bytes = new StringBuilder();
        for (int next : now.tape) {
            bytes.append((char) next);
        }
        now.tape.clear();
        int lines = 0;
        try {
            List<String> line = new ArrayList<>();
            List<Integer> places = new ArrayList<>();
            int at = 0;
            while (true) {
                while (at < bytes.length() && (bytes.charAt(at) == ' ' || bytes.charAt(at) == '\n')) {
                    at++;
                }
                String rest = bytes.substring(at);
                String token = rest.isEmpty() ? "" : tokenOf(rest);
                if (rest.isEmpty() && line.isEmpty()) {
                    break;
                }
                line.add(token);
                places.add(at);
                if (check(draft, line, places)) {
                    lines++;
                    line.clear();
                    places.clear();
                }
                at += token.length();
            }
        } catch (Fault met) {
            now.fault = met.what;
            now.faultPlace = met.place;
            return NONE;
        }
        now.fault = 0;
        now.faultPlace = NONE;
        now.takeActed(draft);
        past.clear();
        return lines;
    }

    private static final class Fault extends Exception {
        private static final long serialVersionUID = 1;
        final int what;
        final int place;

        Fault(int what, int place) {
            super("fault", null, false, false);
            this.what = what;
            this.place = place;
        }
    }

    private static String tokenOf(String rest) {
        java.util.regex.Matcher m = java.util.regex.Pattern.compile("^([a-z]+|[0-9]+|-|;)").matcher(rest);
        return m.find() ? m.group() : rest.substring(0, 1);
    }

    /** Looks at the newest token of a line; true if the line is whole with it, and done. */
    private boolean check(All draft, List<String> line, List<Integer> places) throws Fault {
        int last = line.size() - 1;
        String token = line.get(last);
        int place = places.get(last);
        String word = line.get(0);
        if (last == 0) {
            if (!List.of("prime", "conic", "point", "pair").contains(token)) {
                throw new Fault(1, place);
            }
            return false;
        }
        boolean number = token.matches("[0-9]{1,3}");
        if (last == 1) {
            if (!number) {
                throw new Fault(1, place);
            }
            int n = Integer.parseInt(token);
            int size = draft.p * draft.p + draft.p + 1;
            boolean can = word.equals("prime") ? PRIMES.contains(n) : n < (word.equals("point") ? size : 6);
            if (!can) {
                throw new Fault(2, place);
            }
            return false;
        }
        List<Integer> values = new ArrayList<>();
        for (int k = 2; k < last; k++) {
            if (!line.get(k).equals("-")) {
                values.add(Integer.parseInt(line.get(k)) * (line.get(k - 1).equals("-") ? -1 : 1));
            }
        }
        int wanted = word.equals("conic") || word.equals("pair") ? 6 : 0;
        boolean afterMinus = line.get(last - 1).equals("-");
        if (values.size() < wanted) {
            if (number && Integer.parseInt(token) > 99) {
                throw new Fault(2, place);
            }
            if (!number && (afterMinus || !token.equals("-"))) {
                throw new Fault(1, place);
            }
            return false;
        }
        if (!token.equals(";")) {
            throw new Fault(1, place);
        }
        if (!done(draft, word, Integer.parseInt(line.get(1)), values)) {
            throw new Fault(3, places.get(0));
        }
        return true;
    }

    private boolean done(All draft, String word, int n, List<Integer> v) {
        if (word.equals("prime")) {
            if (draft.p != n) {
                draft.p = n;
                draft.marks.clear();
            }
            return true;
        }
        if (word.equals("point")) {
            return draft.marks.size() < 8 && !draft.marks.contains(n) && draft.marks.add(n);
        }
        int[] next = new int[6];
        if (word.equals("conic")) {
            for (int i = 0; i < 6; i++) {
                next[i] = v.get(i);
            }
        } else {
            int[] place = {0, 5, 4, 5, 1, 3, 4, 3, 2};
            for (int i = 0; i < 9; i++) {
                next[place[i]] += v.get(i / 3) * v.get(3 + i % 3);
            }
        }
        boolean zero = true;
        for (int value : next) {
            zero &= value == 0;
            if (Math.abs(value) > 99) {
                return false;
            }
        }
        draft.conics[n] = next;
        return !zero;
    }

    int fault(int what) {
        return what == 0 ? now.fault : what == 1 ? now.faultPlace : NONE;
    }

    // ---- acts

    private int refuse(int reason, int cause) {
        now.reason = reason;
        now.cause = cause;
        return reason;
    }

    private int accept(All before) {
        past.add(before);
        if (past.size() > 8) {
            past.remove(0);
        }
        return refuse(0, 0);
    }

    private int become(int to, int[] next) {
        if (Arrays.stream(next).allMatch(v -> v == 0)) {
            return refuse(3, 0);
        }
        if (Arrays.stream(next).anyMatch(v -> Math.abs(v) > 99)) {
            return refuse(4, 0);
        }
        All before = now.copy();
        now.conics[to] = next;
        return accept(before);
    }

    int prime(int p) {
        if (!PRIMES.contains(p)) {
            return refuse(1, 0);
        }
        if (p == now.p) {
            return refuse(2, 0);
        }
        All before = now.copy();
        now.p = p;
        now.marks.clear();
        return accept(before);
    }

    int set(int conic, int i, int v) {
        if (!conicIs(conic) || !conicIs(i) || v < -99 || v > 99) {
            return refuse(1, 0);
        }
        int[] next = now.conics[conic].clone();
        if (next[i] == v) {
            return refuse(2, 0);
        }
        next[i] = v;
        return become(conic, next);
    }

    int sum(int to, int one, int x, int other, int y) {
        if (!conicIs(to) || !conicIs(one) || !conicIs(other) || x < -99 || x > 99 || y < -99 || y > 99) {
            return refuse(1, 0);
        }
        int[] next = new int[6];
        for (int i = 0; i < 6; i++) {
            next[i] = x * now.conics[one][i] + y * now.conics[other][i];
        }
        return become(to, next);
    }

    int turn(int to, int of) {
        if (!conicIs(to) || !conicIs(of)) {
            return refuse(1, 0);
        }
        int kind = kindOf(reduced(now.conics[of]));
        if (kind < 4) {
            return refuse(5, 6 + kind);
        }
        return become(to, dualOf(reduced(now.conics[of])));
    }

    int twist(int conic, int how) {
        if (!conicIs(conic) || how < 0 || how > 2) {
            return refuse(1, 0);
        }
        // The numbers of what the conic is when x, y, z are put as sums: read off from its values.
        int[] old = now.conics[conic];
        int[] next = new int[6];
        int[][] units = {{1, 0, 0}, {0, 1, 0}, {0, 0, 1}, {0, 1, 1}, {1, 0, 1}, {1, 1, 0}};
        for (int i = 0; i < 6; i++) {
            int[] u = units[i];
            int[] put = how == 0 ? new int[] {u[1], u[0], u[2]}
                : how == 1 ? new int[] {u[0], u[2], u[1]} : new int[] {u[0] + u[1], u[1], u[2]};
            next[i] = value(old, put);
        }
        next[3] -= next[1] + next[2];
        next[4] -= next[2] + next[0];
        next[5] -= next[0] + next[1];
        if (Arrays.equals(old, next)) {
            return refuse(2, 0);
        }
        return become(conic, next);
    }

    int through(int to) {
        if (!conicIs(to)) {
            return refuse(1, 0);
        }
        int free = free(now.marks);
        if (free != 1) {
            return refuse(10, free > 1 ? 11 : 12);
        }
        return become(to, theOne());
    }

    int mark(int point, boolean off) {
        if (!pointIs(point)) {
            return refuse(1, 0);
        }
        if (now.marks.contains(point) != off) {
            return refuse(2, 0);
        }
        if (!off && now.marks.size() == 8) {
            return refuse(3, 0);
        }
        All before = now.copy();
        if (off) {
            now.marks.remove(Integer.valueOf(point));
        } else {
            now.marks.add(point);
        }
        return accept(before);
    }

    int why(int level) {
        return level == 0 ? now.reason : level == 1 ? now.cause : NONE;
    }

    int undo() {
        if (past.isEmpty()) {
            return NONE;
        }
        now.takeActed(past.remove(past.size() - 1));
        return past.size();
    }

    // ---- the field

    private int[] reduced(int[] conic) {
        int[] next = new int[6];
        for (int i = 0; i < 6; i++) {
            next[i] = Math.floorMod(conic[i], now.p);
        }
        return next;
    }

    private static int value(int[] m, int[] t) {
        return m[0] * t[0] * t[0] + m[1] * t[1] * t[1] + m[2] * t[2] * t[2]
            + m[3] * t[1] * t[2] + m[4] * t[2] * t[0] + m[5] * t[0] * t[1];
    }

    private static int[][] matrix(int[] m) {
        return new int[][] {{2 * m[0], m[5], m[4]}, {m[5], 2 * m[1], m[3]}, {m[4], m[3], 2 * m[2]}};
    }

    private boolean onIt(int[] m, int point) {
        return Math.floorMod(value(m, plane().triples.get(point)), now.p) == 0;
    }

    private List<Integer> pointsOf(int[] m) {
        List<Integer> points = new ArrayList<>();
        for (int k = 0; k < plane().triples.size(); k++) {
            if (onIt(m, k)) {
                points.add(k);
            }
        }
        return points;
    }

    private List<Integer> linesOf(int[] m) {
        List<Integer> lines = new ArrayList<>();
        for (int k = 0; k < plane().triples.size(); k++) {
            boolean all = true;
            for (int point : plane().pointsOn.get(k)) {
                all = all && onIt(m, point);
            }
            if (all) {
                lines.add(k);
            }
        }
        return lines;
    }

    private int rank(int[][] given) {
        int[][] rows = new int[given.length][];
        for (int i = 0; i < rows.length; i++) {
            rows[i] = given[i].clone();
        }
        int rank = 0;
        int width = rows.length == 0 ? 0 : rows[0].length;
        for (int column = 0; column < width; column++) {
            int pivot = -1;
            for (int i = rank; i < rows.length && pivot < 0; i++) {
                if (Math.floorMod(rows[i][column], now.p) != 0) {
                    pivot = i;
                }
            }
            if (pivot < 0) {
                continue;
            }
            int[] row = rows[pivot];
            rows[pivot] = rows[rank];
            rows[rank] = row;
            for (int i = rank + 1; i < rows.length; i++) {
                int factor = rows[i][column];
                for (int j = 0; j < width; j++) {
                    rows[i][j] = Math.floorMod(rows[i][j] * row[column] - row[j] * factor, now.p);
                }
            }
            rank++;
        }
        return rank;
    }

    private int kindOf(int[] m) {
        int rank = rank(matrix(m));
        return rank == 3 ? 4 : rank == 2 ? (linesOf(m).isEmpty() ? 3 : 2) : rank;
    }

    private int polarOf(int[] m, int point) {
        int[] t = plane().triples.get(point);
        int[] line = new int[3];
        for (int i = 0; i < 3; i++) {
            for (int j = 0; j < 3; j++) {
                line[i] += matrix(m)[i][j] * t[j];
            }
        }
        return plane().numberOf(line);
    }

    private List<Integer> tangentsOf(int[] m) {
        List<Integer> lines = new ArrayList<>();
        for (int point : pointsOf(m)) {
            lines.add(polarOf(m, point));
        }
        return lines;
    }

    private List<Integer> tangentsThrough(int[] m, int point) {
        List<Integer> lines = new ArrayList<>();
        for (int line : tangentsOf(m)) {
            if (plane().pointsOn.get(line).contains(point)) {
                lines.add(line);
            }
        }
        lines.sort(null);
        return lines;
    }

    /** The document's numbers; that its POINTS are just the TANGENTS is looked at, too. */
    private int[] dualOf(int[] m) {
        int a = m[0];
        int b = m[1];
        int c = m[2];
        int f = m[3];
        int g = m[4];
        int h = m[5];
        int[] dual = reduced(new int[] {4 * b * c - f * f, 4 * a * c - g * g, 4 * a * b - h * h,
            2 * (g * h - 2 * a * f), 2 * (f * h - 2 * b * g), 2 * (f * g - 2 * c * h)});
        List<Integer> tangents = tangentsOf(m);
        tangents.sort(null);
        Due.holds("the dual has the tangents", tangents.equals(pointsOf(dual)));
        return dual;
    }

    private int liesOf(int[] m, int point) {
        if (onIt(m, point)) {
            return 0;
        }
        if (kindOf(m) != 4) {
            return 3;
        }
        int through = tangentsThrough(m, point).size();
        Due.holds("two tangents or none", through == 0 || through == 2);
        return through == 2 ? 1 : 2;
    }

    private static int nth(List<Integer> list, int k) {
        return k >= 0 && k < list.size() ? list.get(k) : NONE;
    }

    private int[][] rowsOf(List<Integer> points) {
        int[][] rows = new int[points.size()][];
        for (int k = 0; k < rows.length; k++) {
            int[] t = plane().triples.get(points.get(k));
            rows[k] = new int[] {t[0] * t[0], t[1] * t[1], t[2] * t[2], t[1] * t[2], t[2] * t[0], t[0] * t[1]};
        }
        return rows;
    }

    private int free(List<Integer> points) {
        return 6 - rank(rowsOf(points));
    }

    /** The one CONIC of the FAMILY: with its first number 1 it is met by trying each place for that 1. */
    private int[] theOne() {
        int[][] rows = rowsOf(now.marks);
        for (int lead = 0; lead < 6; lead++) {
            int[] found = solve(rows, lead);
            if (found != null) {
                return found;
            }
        }
        throw new IllegalStateException("FREE is 1, and no conic was met");
    }

    /** Numbers with 0 before lead and 1 there that all rows send to 0; or null. */
    private int[] solve(int[][] rows, int lead) {
        int p = now.p;
        List<int[]> known = new ArrayList<>();
        for (int[] row : rows) {
            known.add(row.clone());
        }
        int[] found = new int[6];
        found[lead] = 1;
        for (int i = lead + 1; i < 6; i++) {
            int fits = -1;
            for (int v = 0; v < p && fits < 0; v++) {
                found[i] = v;
                if (canEnd(known, found, i)) {
                    fits = v;
                }
            }
            if (fits < 0) {
                return null;
            }
        }
        return canEnd(known, found, 5) ? found : null;
    }

    /** Whether the numbers up to place i can be gone on with: the rest of the rows has then no more rank. */
    private boolean canEnd(List<int[]> rows, int[] found, int i) {
        int[][] left = new int[rows.size()][5 - i];
        int[][] with = new int[rows.size()][6 - i];
        for (int k = 0; k < left.length; k++) {
            int sum = 0;
            for (int j = 0; j <= i; j++) {
                sum += rows.get(k)[j] * found[j];
            }
            for (int j = i + 1; j < 6; j++) {
                left[k][j - i - 1] = rows.get(k)[j];
                with[k][j - i - 1] = rows.get(k)[j];
            }
            with[k][5 - i] = sum;
        }
        return rank(left) == rank(with);
    }

    // ---- what there is

    int count(int what) {
        switch (what) {
            case 0:
                return now.p;
            case 1:
                return plane().triples.size();
            case 2:
                return now.marks.size();
            case 3:
                return free(now.marks);
            case 4:
                return past.size();
            case 5:
                return now.tape.size();
            case 6:
                return (int) Arrays.stream(now.conics).filter(m -> kindOf(reduced(m)) == 4).count();
            case 7:
                return marksInLine();
            default:
                return NONE;
        }
    }

    private int marksInLine() {
        int found = 0;
        for (int mark : now.marks) {
            boolean with = false;
            for (List<Integer> points : plane().pointsOn) {
                int there = 0;
                for (int other : now.marks) {
                    there += points.contains(other) ? 1 : 0;
                }
                with |= there > 2 && points.contains(mark);
            }
            found += with ? 1 : 0;
        }
        return found;
    }

    int conic(int conic, int what) {
        if (!conicIs(conic)) {
            return UNKNOWN;
        }
        int[] n = now.conics[conic];
        int[] m = reduced(n);
        int d = 4 * n[0] * n[1] - n[5] * n[5];
        int i = 4 * n[1] * n[2] - n[3] * n[3] + 4 * n[0] * n[2] - n[4] * n[4];
        switch (what) {
            case 0:
                return sort(n, d, det(matrix(n)), i);
            case 1:
                return kindOf(m);
            case 2:
                return rank(matrix(m));
            case 3:
                return d;
            case 4:
                return det(matrix(n));
            case 5:
                return i;
            case 6:
                return pointsOf(m).size();
            case 7:
                return linesOf(m).size();
            case 8:
            case 9:
                return kindOf(m) == 4 ? howMany(m, what - 7) : NONE;
            default:
                return what >= 10 && what < 16 ? n[what - 10] : what >= 20 && what < 26 ? m[what - 20] : UNKNOWN;
        }
    }

    private static int det(int[][] m) {
        int sum = 0;
        for (int j = 0; j < 3; j++) {
            sum += m[0][j] * m[1][(j + 1) % 3] * m[2][(j + 2) % 3] - m[0][j] * m[1][(j + 2) % 3] * m[2][(j + 1) % 3];
        }
        return sum;
    }

    private static int sort(int[] n, int d, int e, int i) {
        if (e != 0) {
            boolean there = Math.signum((double) e) * (n[0] + n[1]) < 0;
            return d > 0 ? (there ? 0 : 1) : d == 0 ? 2 : 3;
        }
        if (d != 0) {
            return d > 0 ? 4 : 5;
        }
        if (n[0] == 0 && n[1] == 0 && n[5] == 0) {
            return n[3] == 0 && n[4] == 0 ? 10 : 9;
        }
        return i < 0 ? 6 : i > 0 ? 7 : 8;
    }

    private int howMany(int[] m, int where) {
        int[] through = new int[plane().triples.size()];
        for (int line : tangentsOf(m)) {
            for (int point : plane().pointsOn.get(line)) {
                through[point]++;
            }
        }
        int found = 0;
        for (int k = 0; k < through.length; k++) {
            if (!onIt(m, k) && (through[k] > 0 ? 1 : 2) == where) {
                found++;
            }
        }
        return found;
    }

    int place(int number, int what) {
        return !pointIs(number) || what < 0 || what > 2 ? NONE : plane().triples.get(number)[what];
    }

    int number(int x, int y, int z) {
        return plane().numberOf(new int[] {x, y, z});
    }

    int joined(int one, int other) {
        if (!pointIs(one) || !pointIs(other) || one == other) {
            return NONE;
        }
        for (int line = 0; line < plane().triples.size(); line++) {
            List<Integer> points = plane().pointsOn.get(line);
            if (points.contains(one) && points.contains(other)) {
                return line;
            }
        }
        return NONE;
    }

    int marked(int k) {
        return nth(now.marks, k);
    }

    int lies(int conic, int point) {
        return conicIs(conic) && pointIs(point) ? liesOf(reduced(now.conics[conic]), point) : NONE;
    }

    int on(int conic, int k, boolean line) {
        if (!conicIs(conic)) {
            return NONE;
        }
        int[] m = reduced(now.conics[conic]);
        return nth(line ? linesOf(m) : pointsOf(m), k);
    }

    int polar(int conic, int point) {
        return conicIs(conic) && pointIs(point) ? polarOf(reduced(now.conics[conic]), point) : NONE;
    }

    int pole(int conic, int line) {
        if (!conicIs(conic) || !pointIs(line) || kindOf(reduced(now.conics[conic])) != 4) {
            return NONE;
        }
        for (int point = 0; point < plane().triples.size(); point++) {
            if (polarOf(reduced(now.conics[conic]), point) == line) {
                return point;
            }
        }
        return NONE;
    }

    int meets(int conic, int line) {
        if (!conicIs(conic) || !pointIs(line)) {
            return NONE;
        }
        int[] m = reduced(now.conics[conic]);
        return (int) plane().pointsOn.get(line).stream().filter(point -> onIt(m, point)).count();
    }

    int tangent(int conic, int point, int k) {
        if (!conicIs(conic) || !pointIs(point) || kindOf(reduced(now.conics[conic])) != 4) {
            return NONE;
        }
        List<Integer> lines = tangentsThrough(reduced(now.conics[conic]), point);
        return k == NONE ? lines.size() : nth(lines, k);
    }

    // ---- two conics

    /** The MEMBERS 0 to p; null if there is no PENCIL. */
    private int[][] members(int one, int other) {
        if (!conicIs(one) || !conicIs(other)) {
            return null;
        }
        int[] a = reduced(now.conics[one]);
        int[] b = reduced(now.conics[other]);
        for (int times = 0; times < now.p; times++) {
            int[] more = new int[6];
            int[] back = new int[6];
            for (int i = 0; i < 6; i++) {
                more[i] = times * a[i];
                back[i] = times * b[i];
            }
            if (Arrays.equals(reduced(more), b) || Arrays.equals(reduced(back), a)) {
                return null;
            }
        }
        int[][] members = new int[now.p + 1][6];
        for (int t = 0; t < now.p; t++) {
            for (int i = 0; i < 6; i++) {
                members[t][i] = (t * a[i] + b[i]) % now.p;
            }
        }
        members[now.p] = a;
        return members;
    }

    int pencil(int one, int other, int what) {
        int[][] members = members(one, other);
        if (members == null) {
            return NONE;
        }
        List<Integer> base = pointsOf(members[now.p]);
        base.retainAll(pointsOf(members[0]));
        if (what == 0) {
            return base.size();
        }
        if (what == 1) {
            return (int) Arrays.stream(members).filter(m -> kindOf(m) < 4).count();
        }
        if (what == 2) {
            if (kindOf(members[0]) != 4 || kindOf(members[now.p]) != 4) {
                return NONE;
            }
            return (int) base.stream().filter(k -> polarOf(members[0], k) == polarOf(members[now.p], k)).count();
        }
        if (what >= 100 && what < 1000) {
            return nth(base, what - 100);
        }
        int t = what % 1000;
        if (what < 1000 || what >= 4000 || t > now.p) {
            return NONE;
        }
        return what < 2000 ? kindOf(members[t]) : what < 3000 ? pointsOf(members[t]).size() : linesOf(members[t]).size();
    }

    int member(int one, int other, int t, int i) {
        int[][] members = members(one, other);
        return members == null || t < 0 || t > now.p || !conicIs(i) ? NONE : members[t][i];
    }

    int passing(int one, int other, int point) {
        int[][] members = members(one, other);
        if (members == null || !pointIs(point)) {
            return NONE;
        }
        for (int t = 0; t <= now.p; t++) {
            if (onIt(members[t], point)) {
                return t;
            }
        }
        return NONE;
    }

    // ---- families

    int only(int i) {
        return free(now.marks) != 1 || !conicIs(i) ? NONE : theOne()[i];
    }

    int freed(int point) {
        if (!pointIs(point) || now.marks.contains(point)) {
            return NONE;
        }
        List<Integer> more = new ArrayList<>(now.marks);
        more.add(point);
        return free(more);
    }

    int useful() {
        int free = free(now.marks);
        int found = 0;
        for (int k = 0; k < plane().triples.size(); k++) {
            if (!now.marks.contains(k)) {
                found += freed(k) < free ? 1 : 0;
            }
        }
        return found;
    }

    boolean image(int k) {
        if (k < 0 || k > 2) {
            return false;
        }
        images[k] = now.copy();
        return true;
    }

    boolean again(int k) {
        if (k < 0 || k > 2 || images[k] == null) {
            return false;
        }
        now = images[k].copy();
        past.clear();
        return true;
    }
}
