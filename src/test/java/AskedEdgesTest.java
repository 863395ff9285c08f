import java.util.Arrays;

/** The boundaries that Promises 15 to 26 name: what there is, and what there is none of. */
public final class AskedEdgesTest {
    private static final int NONE = Edges.NONE;
    private static final int UNKNOWN = Edges.UNKNOWN;
    private static final int LOWEST = Edges.LOWEST;
    private static final int HIGHEST = Edges.HIGHEST;
    private static final String KINDS_0_TO_4 = "kinds 0 to 4";

    public static void main(String[] args) {
        countOfPrimeAndPoints();
        countOfMarkedAndFree();
        countOfActs();
        countOfBytes();
        countOfProperOnes();
        countInLines();
        countOfAnotherWhat();
        conicOverFractions();
        conicNumbers();
        conicOutsideOfOtherKinds();
        conicNoneSuch();
        placeNoneSuch();
        numberOfAnyInts();
        numberOfAllZero();
        joinedOnes();
        joinedNone();
        markedOnes();
        liesCounted();
        liesNeither();
        liesNone();
        onPoints();
        onLines();
        onNone();
        polarNone();
        polarNoneSuch();
        poleOfEach();
        poleNone();
        meetsOnLinesOfIt();
        meetsCounted();
        meetsNone();
        tangentsCounted();
        tangentNone();
        Due.end("AskedEdgesTest");
    }

    /** CONIC k is of KIND k, for k 0 to 4, and CONIC 5 is as at first. */
    private static ConicDesk kinds(int p) {
        StringBuilder text = new StringBuilder("prime " + p + ";");
        int[][] numbers = Edges.kinds(p);
        for (int kind = 0; kind < 5; kind++) {
            text.append(Edges.conic(kind, numbers[kind]));
        }
        ConicDesk desk = Edges.desk(text.toString());
        for (int kind = 0; kind < 5; kind++) {
            Due.is(KINDS_0_TO_4 + ", p being " + p, desk.conic(kind, 1), kind);
        }
        return desk;
    }

    // ---- Promise 15

    private static void countOfPrimeAndPoints() {
        Due.sentence("Promise 15", "What 0: the PRIME, 1: POINTS of the field's plane");
        int[] points = {13, 31, 57, 133, 183, 307, 381, 553};
        for (int k = 0; k < 8; k++) {
            ConicDesk desk = new ConicDesk();
            desk.prime(Edges.PRIMES[k]);
            Due.is("count(0)", desk.count(0), Edges.PRIMES[k]);
            Due.is("count(1)", desk.count(1), points[k]);
        }
    }

    private static void countOfMarkedAndFree() {
        Due.sentence("Promise 15", "2: MARKED ones, 3: FREE");
        ConicDesk desk = new ConicDesk();
        int[] points = {0, 49, 56, 8, 17, 7, 9, 20};
        for (int k = 0; k <= 8; k++) {
            Due.is("count(2)", desk.count(2), k);
            Due.is("count(3)", desk.count(3), Math.max(0, 6 - k));
            if (k < 8) {
                Due.is("mark", desk.mark(points[k], false), 0);
            }
        }
        for (int k = 7; k >= 0; k--) {
            Due.is("unmark", desk.mark(points[k], true), 0);
            Due.is("count(2)", desk.count(2), k);
            Due.is("count(3)", desk.count(3), Math.max(0, 6 - k));
        }
    }

    private static void countOfActs() {
        Due.sentence("Promise 15", "4: ACTS that can be UNDONE");
        ConicDesk desk = new ConicDesk();
        for (int k = 0; k < 20; k++) {
            Due.is("count(4)", desk.count(4), Math.min(k, 8));
            Due.is("set", desk.set(1, 1, k + 1), 0);
        }
        for (int k = 7; k >= 0; k--) {
            Due.is("undo", desk.undo(), k);
            Due.is("count(4)", desk.count(4), k);
        }
        desk.undo();
        Due.is("count(4)", desk.count(4), 0);
    }

    private static void countOfBytes() {
        Due.sentence("Promise 15", "5: bytes on the tape");
        ConicDesk desk = new ConicDesk();
        for (int k = 0; k <= 25; k++) {
            Due.is("count(5)", desk.count(5), 20 * k);
            desk.feed(0, 0, 0, 0, 0);
        }
        Due.is("count(5)", desk.count(5), 500);
        for (int n : new int[] {499, 21, 20, 19, 1, 0}) {
            desk.end(n);
            Due.is("count(5)", desk.count(5), n);
        }
    }

    private static void countOfProperOnes() {
        Due.sentence("Promise 15", "6: CONICS that are of KIND 4");
        for (int p : Edges.PRIMES) {
            ConicDesk desk = kinds(p);
            Due.is("count(6) of one, p being " + p, desk.count(6), 1);
            int[] row = {4, 0, 1, 2, 3, 5};
            for (int k = 1; k <= 6; k++) {
                Due.is("count(6)", desk.count(6), k);
                if (k < 6) {
                    Due.is("one more", desk.sum(row[k], 4, 1, 4, 0), 0);
                }
            }
        }
        Due.is("count(6) of none", new ConicDesk().count(6), 0);
    }

    private static void countInLines() {
        Due.sentence("Promise 15", "7: MARKED POINTS that lie on a LINE with two other MARKED ones");
        Due.is("of none", new ConicDesk().count(7), 0);
        inLines(0, 5);
        inLines(0, 0, 1);
        inLines(3, 0, 1, 2);
        inLines(3, 0, 6, 49 + 7);
        inLines(0, 0, 1, 7);
        inLines(4, 0, 1, 2, 3);
        // Three of a LINE and one off it, at each place of the row.
        inLines(3, 8, 0, 1, 2);
        inLines(3, 0, 8, 1, 2);
        inLines(3, 0, 1, 8, 2);
        inLines(3, 0, 1, 2, 8);
        // The far LINE x = 0.
        inLines(3, 56, 49, 55);
        // Two LINES with a marked crossing, (1 : 0 : 0), and without it.
        inLines(5, 0, 1, 2, 7, 14);
        inLines(5, 1, 7, 2, 14, 0);
        inLines(6, 1, 2, 3, 7, 14, 21);
        inLines(0, 1, 2, 7, 14);
        inLines(8, 0, 1, 2, 3, 4, 5, 6, 56);
        inLines(7, 8, 0, 1, 2, 3, 4, 5, 6);
        // (1 : y : yy) and (0 : 0 : 1): no three of a LINE.
        inLines(0, 0, 8, 18, 23, 30, 39, 43, 56);
        for (int p : Edges.PRIMES) {
            ConicDesk desk = Edges.desk(Edges.marks(p, p * p + p, p * p + p - 1, p * p, 0, p - 1));
            Due.is("x = 0, and y = 0 with the first, p being " + p, desk.count(7), 5);
        }
    }

    private static void inLines(int due, int... points) {
        StringBuilder told = new StringBuilder();
        for (int point : points) {
            told.append(' ').append(point);
        }
        Due.is("count(7) of" + told, Edges.desk(Edges.marks(7, points)).count(7), due);
    }

    private static void countOfAnotherWhat() {
        Due.sentence("Promise 15", "NONE for another what.");
        ConicDesk desk = new ConicDesk();
        for (int what : new int[] {-1, 8, -2, 9, LOWEST, LOWEST + 1, HIGHEST, HIGHEST - 1, UNKNOWN, 256, 257, 1 << 16}) {
            Due.is("count(" + what + ")", desk.count(what), NONE);
        }
        Due.fails("count(0) is none", desk.count(0) == NONE);
        Due.fails("count(7) is none", desk.count(7) == NONE);
    }

    // ---- Promise 16

    private static void conicOverFractions() {
        Due.sentence("Promise 16", "what 0: SORT, .. 3: d, 4: e, 5: i");
        ConicDesk desk = Edges.desk("conic 0 0 0 1 0 0 1;conic 1 99 99 99 99 99 99;conic 2 99 -99 -99 99 99 99;"
            + "conic 3 1 0 0 0 1 0;conic 4 -99 -99 -99 0 0 0;conic 5 99 99 99 0 0 0;");
        Due.is("d of -1 is an answer", desk.conic(0, 3), -1);
        Due.is("i of -1 is an answer", desk.conic(3, 5), -1);
        Due.is("e of -2 is an answer", desk.conic(0, 4), -2);
        Due.is("e, all 99", desk.conic(1, 4), 4 * 970299);
        Due.is("e, the most", desk.conic(5, 4), 8 * 970299);
        Due.is("e, the least", desk.conic(4, 4), -8 * 970299);
        Due.is("d, the most", desk.conic(5, 3), 4 * 9801);
        Due.is("d, the least", desk.conic(2, 3), -5 * 9801);
        Due.is("i, the most", desk.conic(5, 5), 8 * 9801);
        Due.is("i, by the signs", desk.conic(2, 5), 4 * 9801 - 9801 - 4 * 9801 - 9801);
    }

    private static void conicNumbers() {
        Due.sentence("Promise 16", "10 to 15: its numbers, 20 to 25: these modulo p");
        for (int conic = 0; conic < 6; conic++) {
            ConicDesk desk = Edges.desk(Edges.conic(conic, -99, 99, -1, 7, -7, 0));
            int[] numbers = {-99, 99, -1, 7, -7, 0};
            int[] modulo = {6, 1, 6, 0, 0, 0};
            for (int i = 0; i < 6; i++) {
                Due.is("conic(" + conic + ", " + (10 + i) + ")", desk.conic(conic, 10 + i), numbers[i]);
                Due.is("conic(" + conic + ", " + (20 + i) + ")", desk.conic(conic, 20 + i), modulo[i]);
            }
        }
    }

    private static void conicOutsideOfOtherKinds() {
        Due.sentence("Promise 16", "6: POINTS ON it, 7: LINES that lie on it, 8: POINTS OUTSIDE, 9: INSIDE (8, 9 of KIND 4; else NONE)");
        for (int p : Edges.PRIMES) {
            ConicDesk desk = kinds(p);
            int[] points = {Edges.points(p), p + 1, 2 * p + 1, 1, p + 1};
            int[] lines = {Edges.points(p), 1, 2, 0, 0};
            for (int kind = 0; kind < 5; kind++) {
                Due.is("points on kind " + kind, desk.conic(kind, 6), points[kind]);
                Due.is("lines on kind " + kind, desk.conic(kind, 7), lines[kind]);
                Due.is("outside of kind " + kind, desk.conic(kind, 8), kind == 4 ? p * (p + 1) / 2 : NONE);
                Due.is("inside of kind " + kind, desk.conic(kind, 9), kind == 4 ? p * (p - 1) / 2 : NONE);
            }
        }
    }

    private static void conicNoneSuch() {
        Due.sentence("Promise 16", "UNKNOWN: none such.");
        ConicDesk desk = new ConicDesk();
        int[] whats = {-1, 16, 17, 18, 19, 26, 27, 30, 100, -2, LOWEST, LOWEST + 10, HIGHEST, HIGHEST - 5, UNKNOWN, 256, 266};
        for (int what : whats) {
            Due.is("conic(0, " + what + ")", desk.conic(0, what), UNKNOWN);
            Due.is("conic(5, " + what + ")", desk.conic(5, what), UNKNOWN);
            Due.is("conic(6, " + what + ")", desk.conic(6, what), UNKNOWN);
        }
        int[] can = {0, 1, 2, 3, 4, 5, 6, 7, 8, 9, 10, 11, 12, 13, 14, 15, 20, 21, 22, 23, 24, 25};
        for (int what : can) {
            Due.fails("conic(0, " + what + ") is unknown", desk.conic(0, what) == UNKNOWN);
            Due.fails("conic(5, " + what + ") is unknown", desk.conic(5, what) == UNKNOWN);
            for (int conic : Edges.NOT_OF_SIX) {
                Due.is("conic(" + conic + ", " + what + ")", desk.conic(conic, what), UNKNOWN);
            }
        }
    }

    // ---- Promises 17 to 20

    private static void placeNoneSuch() {
        Due.sentence("Promise 17", "what 0, 1, 2: its numbers in order. NONE: there is none such.");
        for (int p : Edges.PRIMES) {
            ConicDesk desk = Edges.desk("prime " + p + ";");
            for (int number : new int[] {0, 1, p - 1, p, p + 1, p * p - 1, p * p, p * p + 1, p * p + p - 1, p * p + p}) {
                int[] t = Edges.triple(p, number);
                for (int what = 0; what < 3; what++) {
                    Due.is("place(" + number + ", " + what + "), p being " + p, desk.place(number, what), t[what]);
                }
                for (int what : new int[] {-1, 3, LOWEST, HIGHEST, 256}) {
                    Due.is("place(" + number + ", " + what + ")", desk.place(number, what), NONE);
                }
            }
            for (int number : Edges.notOfPlane(p)) {
                for (int what = -1; what < 4; what++) {
                    Due.is("place(" + number + ", " + what + ")", desk.place(number, what), NONE);
                }
            }
        }
    }

    private static void numberOfAnyInts() {
        Due.sentence("Promise 18", "The number of the POINT or LINE (x : y : z), any numbers, modulo p.");
        int[] ints = {LOWEST, LOWEST + 1, -2000000000, -24, -1, 0, 1, 24, 1 << 30, HIGHEST - 1, HIGHEST};
        for (int p : Edges.PRIMES) {
            for (int x : ints) {
                ConicDesk desk = Edges.desk("prime " + p + ";");
                for (int y : ints) {
                    for (int z : new int[] {LOWEST, -1, 0, HIGHEST}) {
                        Due.is("number(" + x + ", " + y + ", " + z + "), p being " + p, desk.number(x, y, z), numberOf(p, x, y, z));
                    }
                }
            }
        }
    }

    private static int numberOf(int p, long x, long y, long z) {
        for (int number = 0; number < Edges.points(p); number++) {
            int[] t = Edges.triple(p, number);
            for (int times = 1; times < p; times++) {
                if (Math.floorMod(x - times * t[0], (long) p) == 0 && Math.floorMod(y - times * t[1], (long) p) == 0
                    && Math.floorMod(z - times * t[2], (long) p) == 0) {
                    return number;
                }
            }
        }
        return NONE;
    }

    private static void numberOfAllZero() {
        Due.sentence("Promise 18", "NONE: all are 0 there.");
        for (int p : Edges.PRIMES) {
            ConicDesk desk = Edges.desk("prime " + p + ";");
            int most = HIGHEST / p * p;
            Due.is("of 0 0 0", desk.number(0, 0, 0), NONE);
            Due.is("of p's", desk.number(p, -p, most), NONE);
            Due.is("of p's", desk.number(-most, most, -p), NONE);
            Due.is("z alone is not", desk.number(p, -p, most - 1), p * p + p);
            Due.is("y alone is not", desk.number(-most, 1 - p, 0), p * p);
            Due.is("x alone is not", desk.number(p + 1, most, -most), 0);
        }
    }

    private static void joinedOnes() {
        Due.sentence("Promise 19", "The LINE through two POINTS, or the POINT on two LINES.");
        for (int p : Edges.PRIMES) {
            int[] ends = {0, 1, p - 1, p, p + 1, p * p - 1, p * p, p * p + 1, p * p + p - 1, p * p + p};
            ConicDesk desk = Edges.desk("prime " + p + ";");
            for (int one : ends) {
                for (int other : ends) {
                    int line = desk.joined(one, other);
                    if (one == other) {
                        Due.is("one with itself", line, NONE);
                    } else {
                        Due.holds("there is one of " + one + " and " + other, line >= 0 && line < Edges.points(p));
                        Due.holds("it goes through " + one, line >= 0 && Edges.meet(p, line, one));
                        Due.holds("it goes through " + other, line >= 0 && Edges.meet(p, line, other));
                    }
                }
            }
        }
    }

    private static void joinedNone() {
        Due.sentence("Promise 19", "NONE: they are one, there are none such.");
        for (int p : Edges.PRIMES) {
            ConicDesk desk = Edges.desk("prime " + p + ";");
            for (int no : Edges.notOfPlane(p)) {
                Due.is("joined(" + no + ", 0)", desk.joined(no, 0), NONE);
                Due.is("joined(0, " + no + ")", desk.joined(0, no), NONE);
                Due.is("joined with itself, " + no, desk.joined(no, no), NONE);
                Due.is("joined with -1, " + no, desk.joined(-1, no), NONE);
            }
            Due.is("the first alone", desk.joined(0, 0), NONE);
            Due.is("the last alone", desk.joined(p * p + p, p * p + p), NONE);
            Due.is("the first and the last", desk.joined(0, p * p + p), p * p);
        }
    }

    private static void markedOnes() {
        Due.sentence("Promise 20", "The k-th MARKED POINT, as they came. NONE: not so many.");
        ConicDesk desk = new ConicDesk();
        for (int marks = 0; marks <= 8; marks++) {
            for (int k = 0; k <= 9; k++) {
                Due.is("marked(" + k + ") of " + marks, desk.marked(k), k < marks ? 56 - 5 * k : NONE);
            }
            for (int k : new int[] {-1, LOWEST, HIGHEST, 256, UNKNOWN}) {
                Due.is("marked(" + k + ") of " + marks, desk.marked(k), NONE);
            }
            if (marks < 8) {
                Due.is("mark", desk.mark(56 - 5 * marks, false), 0);
            }
        }
        Due.is("unmark the last", desk.mark(21, true), 0);
        Due.is("marked(7)", desk.marked(7), NONE);
        Due.is("marked(6)", desk.marked(6), 26);
        Due.is("another prime", desk.prime(3), 0);
        Due.is("marked(0)", desk.marked(0), NONE);
    }

    // ---- Promise 21

    private static void liesCounted() {
        Due.sentence("Promise 21", "Of a POINT and a CONIC: 0 ON it, 1 OUTSIDE, 2 INSIDE");
        for (int p : Edges.PRIMES) {
            int[] where = new int[3];
            ConicDesk desk = null;
            for (int point = 0; point < Edges.points(p); point++) {
                if (point % 200 == 0) {
                    desk = kinds(p);
                }
                int lies = desk.lies(4, point);
                boolean on = Edges.value(p, Edges.kinds(p)[4], point) == 0;
                Due.is("on, " + point + ", p being " + p, lies == 0 ? 1 : 0, on ? 1 : 0);
                Due.holds("0 to 2", lies >= 0 && lies < 3);
                where[lies < 0 || lies > 2 ? 0 : lies]++;
                // yy - zx: yy less zx is a square but 0 where two TANGENTS go through, as z x is 0 at one end of y.
                int[] t = Edges.triple(p, point);
                int square = Math.floorMod(t[1] * t[1] - t[2] * t[0], p);
                boolean root = false;
                for (int n = 1; n < p; n++) {
                    root |= n * n % p == square;
                }
                Due.is("lies of " + point + ", p being " + p, lies, square == 0 ? 0 : root ? 1 : 2);
            }
            Due.is("on", where[0], p + 1);
            Due.is("outside", where[1], p * (p + 1) / 2);
            Due.is("inside", where[2], p * (p - 1) / 2);
        }
    }

    private static void liesNeither() {
        Due.sentence("Promise 21", "3 neither (another KIND)");
        for (int p : Edges.PRIMES) {
            int[][] numbers = Edges.kinds(p);
            for (int kind = 0; kind < 4; kind++) {
                ConicDesk desk = kinds(p);
                for (int point = 0; point < Edges.points(p); point++) {
                    if (point % 300 == 299) {
                        desk = kinds(p);
                    }
                    Due.is("lies(" + kind + ", " + point + ")", desk.lies(kind, point),
                        Edges.value(p, numbers[kind], point) == 0 ? 0 : 3);
                }
            }
        }
    }

    private static void liesNone() {
        Due.sentence("Promise 21", "NONE: there are none such.");
        for (int p : Edges.PRIMES) {
            ConicDesk desk = kinds(p);
            for (int kind = 0; kind < 5; kind++) {
                Due.fails("lies(" + kind + ", 0) is none", desk.lies(kind, 0) == NONE);
                Due.fails("lies(" + kind + ", the last) is none", desk.lies(kind, p * p + p) == NONE);
                for (int point : Edges.notOfPlane(p)) {
                    Due.is("lies(" + kind + ", " + point + ")", desk.lies(kind, point), NONE);
                }
            }
            for (int conic : Edges.NOT_OF_SIX) {
                Due.is("lies(" + conic + ", 0)", desk.lies(conic, 0), NONE);
                Due.is("lies(" + conic + ", -1)", desk.lies(conic, -1), NONE);
            }
        }
    }

    // ---- Promise 22

    private static void onPoints() {
        Due.sentence("Promise 22", "The k-th POINT ON a CONIC, by numbers, rising");
        for (int p : Edges.PRIMES) {
            int[][] numbers = Edges.kinds(p);
            for (int kind = 0; kind < 5; kind++) {
                ConicDesk desk = kinds(p);
                int k = 0;
                for (int point = 0; point < Edges.points(p); point++) {
                    if (Edges.value(p, numbers[kind], point) == 0) {
                        if (k % 300 == 299) {
                            desk = kinds(p);
                        }
                        Due.is("on(" + kind + ", " + k + ", false), p being " + p, desk.on(kind, k, false), point);
                        k++;
                    }
                }
                Due.is("no more", desk.on(kind, k, false), NONE);
                Due.is("nor one behind", desk.on(kind, k + 1, false), NONE);
            }
        }
    }

    private static void onLines() {
        Due.sentence("Promise 22", "or (line) the k-th LINE that lies on it");
        for (int p : Edges.PRIMES) {
            int[][] numbers = Edges.kinds(p);
            for (int kind = 0; kind < 5; kind++) {
                ConicDesk desk = kinds(p);
                int k = 0;
                for (int line = 0; line < Edges.points(p); line++) {
                    if (liesOn(p, numbers[kind], line)) {
                        if (k % 300 == 299) {
                            desk = kinds(p);
                        }
                        Due.is("on(" + kind + ", " + k + ", true), p being " + p, desk.on(kind, k, true), line);
                        k++;
                    }
                }
                Due.is("lines", k, new int[] {Edges.points(p), 1, 2, 0, 0}[kind]);
                Due.is("no more", desk.on(kind, k, true), NONE);
                Due.is("nor one behind", desk.on(kind, k + 1, true), NONE);
            }
            // LINES of the first and of the last number: x = 0 and z = 0.
            ConicDesk ends = Edges.desk("prime " + p + ";conic 0 0 0 0 0 1 0;conic 1 0 1 0 0 0 0;");
            Due.is("the first line", ends.on(0, 0, true), 0);
            Due.is("the last line", ends.on(0, 1, true), p * p + p);
            Due.is("no third", ends.on(0, 2, true), NONE);
            Due.is("y = 0", ends.on(1, 0, true), p * p);
        }
    }

    private static boolean liesOn(int p, int[] numbers, int line) {
        for (int point = 0; point < Edges.points(p); point++) {
            if (Edges.meet(p, line, point) && Edges.value(p, numbers, point) != 0) {
                return false;
            }
        }
        return true;
    }

    private static void onNone() {
        Due.sentence("Promise 22", "NONE: not so many, no such CONIC.");
        for (int p : Edges.PRIMES) {
            ConicDesk desk = kinds(p);
            for (int kind = 0; kind < 5; kind++) {
                for (int k : Edges.notOfPlane(p)) {
                    Due.is("on(" + kind + ", " + k + ", false)", desk.on(kind, k, false), NONE);
                    Due.is("on(" + kind + ", " + k + ", true)", desk.on(kind, k, true), NONE);
                }
            }
            for (int conic : Edges.NOT_OF_SIX) {
                Due.is("on(" + conic + ", 0, false)", desk.on(conic, 0, false), NONE);
                Due.is("on(" + conic + ", 0, true)", desk.on(conic, 0, true), NONE);
            }
        }
    }

    // ---- Promises 23 and 24

    private static void polarNone() {
        Due.sentence("Terms 1", "POLAR of a POINT: the LINE that the MATRIX makes of it (none, if all are 0).");
        for (int p : Edges.PRIMES) {
            int[][] numbers = Edges.kinds(p);
            int[] without = new int[5];
            for (int kind = 0; kind < 5; kind++) {
                ConicDesk desk = kinds(p);
                int[] n = numbers[kind];
                for (int point = 0; point < Edges.points(p); point++) {
                    if (point % 300 == 299) {
                        desk = kinds(p);
                    }
                    int[] t = Edges.triple(p, point);
                    int due = numberOf(p, 2 * n[0] * t[0] + n[5] * t[1] + n[4] * t[2],
                        n[5] * t[0] + 2 * n[1] * t[1] + n[3] * t[2], n[4] * t[0] + n[3] * t[1] + 2 * n[2] * t[2]);
                    Due.is("polar(" + kind + ", " + point + "), p being " + p, desk.polar(kind, point), due);
                    without[kind] += due == NONE ? 1 : 0;
                }
            }
            int[] due = {Edges.points(p), p + 1, 1, 1, 0};
            for (int kind = 0; kind < 5; kind++) {
                Due.is("points without a polar, kind " + kind, without[kind], due[kind]);
            }
        }
    }

    private static void polarNoneSuch() {
        Due.sentence("Promise 23", "NONE: none, none such.");
        for (int p : Edges.PRIMES) {
            ConicDesk desk = kinds(p);
            for (int kind = 0; kind < 5; kind++) {
                for (int point : Edges.notOfPlane(p)) {
                    Due.is("polar(" + kind + ", " + point + ")", desk.polar(kind, point), NONE);
                }
            }
            for (int conic : Edges.NOT_OF_SIX) {
                Due.is("polar(" + conic + ", 0)", desk.polar(conic, 0), NONE);
            }
            Due.is("the first point's", desk.polar(4, 0), p * p + p);
            Due.is("the last point's", desk.polar(4, p * p + p), 0);
        }
    }

    private static void poleOfEach() {
        Due.sentence("Terms 1", "POLE of a LINE: of KIND 4: the POINT of which that is the POLAR.");
        for (int p : Edges.PRIMES) {
            ConicDesk desk = kinds(p);
            for (int line = 0; line < Edges.points(p); line++) {
                if (line % 240 == 239) {
                    desk = kinds(p);
                }
                int pole = desk.pole(4, line);
                Due.holds("there is one of " + line, pole >= 0 && pole < Edges.points(p));
                Due.is("its polar, p being " + p, desk.polar(4, pole), line);
            }
            Due.is("the first line's", desk.pole(4, 0), p * p + p);
            Due.is("the last line's", desk.pole(4, p * p + p), 0);
        }
    }

    private static void poleNone() {
        Due.sentence("Promise 24", "NONE: none, none such, its KIND is not 4.");
        for (int p : Edges.PRIMES) {
            ConicDesk desk = kinds(p);
            for (int kind = 0; kind < 4; kind++) {
                for (int line : new int[] {0, 1, p, p * p, p * p + p}) {
                    Due.is("pole(" + kind + ", " + line + ")", desk.pole(kind, line), NONE);
                }
            }
            for (int line : Edges.notOfPlane(p)) {
                Due.is("pole(4, " + line + ")", desk.pole(4, line), NONE);
                Due.is("pole(3, " + line + ")", desk.pole(3, line), NONE);
            }
            for (int conic : Edges.NOT_OF_SIX) {
                Due.is("pole(" + conic + ", 0)", desk.pole(conic, 0), NONE);
            }
        }
    }

    // ---- Promise 25

    private static void meetsOnLinesOfIt() {
        Due.sentence("Promise 25", "(of a LINE that lies on it, of VOID: p and 1)");
        for (int p : Edges.PRIMES) {
            ConicDesk desk = kinds(p);
            for (int line : new int[] {0, 1, p - 1, p, p * p - 1, p * p, p * p + p - 1, p * p + p}) {
                Due.is("of void, p being " + p, desk.meets(0, line), p + 1);
            }
            Due.is("of a line twice", desk.meets(1, desk.on(1, 0, true)), p + 1);
            Due.is("of two lines", desk.meets(2, desk.on(2, 0, true)), p + 1);
            Due.is("of two lines", desk.meets(2, desk.on(2, 1, true)), p + 1);
        }
    }

    private static void meetsCounted() {
        Due.sentence("Promise 25", "In how many POINTS a LINE meets a CONIC");
        for (int p : Edges.PRIMES) {
            int[][] numbers = Edges.kinds(p);
            // Of KIND 4 as many LINES miss it as POINTS are INSIDE.
            int[] none = {0, 0, 0, p * p, p * (p - 1) / 2};
            int[] once = {0, Edges.points(p) - 1, p - 1, p + 1, p + 1};
            for (int kind = 0; kind < 5; kind++) {
                int[] met = new int[p + 2];
                ConicDesk desk = kinds(p);
                for (int line = 0; line < Edges.points(p); line++) {
                    if (line % 300 == 299) {
                        desk = kinds(p);
                    }
                    int due = 0;
                    for (int point = 0; point < Edges.points(p); point++) {
                        due += Edges.meet(p, line, point) && Edges.value(p, numbers[kind], point) == 0 ? 1 : 0;
                    }
                    Due.is("meets(" + kind + ", " + line + "), p being " + p, desk.meets(kind, line), due);
                    met[due]++;
                }
                Due.is("lines that miss kind " + kind, met[0], none[kind]);
                Due.is("lines that meet it once, kind " + kind, met[1], once[kind]);
            }
        }
    }

    private static void meetsNone() {
        Due.sentence("Promise 25", "NONE: there are none such.");
        for (int p : Edges.PRIMES) {
            ConicDesk desk = kinds(p);
            for (int kind = 0; kind < 5; kind++) {
                for (int line : Edges.notOfPlane(p)) {
                    Due.is("meets(" + kind + ", " + line + ")", desk.meets(kind, line), NONE);
                }
            }
            for (int conic : Edges.NOT_OF_SIX) {
                Due.is("meets(" + conic + ", 0)", desk.meets(conic, 0), NONE);
            }
        }
    }

    // ---- Promise 26

    private static void tangentsCounted() {
        Due.sentence("Promise 26", "The k-th LINE that is a TANGENT .. and goes through a POINT, by numbers; k NONE: how many.");
        for (int p : Edges.PRIMES) {
            int[] tangents = new int[p + 1];
            ConicDesk desk = kinds(p);
            for (int k = 0; k <= p; k++) {
                tangents[k] = desk.polar(4, desk.on(4, k, false));
            }
            Arrays.sort(tangents);
            for (int point = 0; point < Edges.points(p); point++) {
                if (point % 80 == 79) {
                    desk = kinds(p);
                }
                int k = 0;
                for (int line : tangents) {
                    if (Edges.meet(p, line, point)) {
                        Due.is("tangent(4, " + point + ", " + k + "), p being " + p, desk.tangent(4, point, k), line);
                        k++;
                    }
                }
                Due.is("how many through " + point, desk.tangent(4, point, NONE), k);
                Due.is("no more through " + point, desk.tangent(4, point, k), NONE);
                boolean two = Edges.value(p, Edges.kinds(p)[4], point) != 0;
                Due.holds("one ON it, two or none else", two ? k == 0 || k == 2 : k == 1);
            }
        }
    }

    private static void tangentNone() {
        Due.sentence("Promise 26", "NONE: not so many, none such, another KIND.");
        for (int p : Edges.PRIMES) {
            ConicDesk desk = kinds(p);
            for (int k : new int[] {-2, -3, 3, p + 1, LOWEST, LOWEST + 1, HIGHEST, HIGHEST - 1, UNKNOWN, 256}) {
                Due.is("tangent(4, 0, " + k + ")", desk.tangent(4, 0, k), NONE);
                Due.is("tangent(4, p, " + k + ")", desk.tangent(4, p, k), NONE);
            }
            for (int k = -1; k < 2; k++) {
                for (int kind = 0; kind < 4; kind++) {
                    Due.is("tangent(" + kind + ", 0, " + k + ")", desk.tangent(kind, 0, k), NONE);
                    Due.is("tangent(" + kind + ", the last, " + k + ")", desk.tangent(kind, p * p + p, k), NONE);
                }
                for (int point : Edges.notOfPlane(p)) {
                    Due.is("tangent(4, " + point + ", " + k + ")", desk.tangent(4, point, k), NONE);
                }
                for (int conic : Edges.NOT_OF_SIX) {
                    Due.is("tangent(" + conic + ", 0, " + k + ")", desk.tangent(conic, 0, k), NONE);
                }
            }
            Due.is("of the first point", desk.tangent(4, 0, NONE), 1);
            Due.is("of the last point", desk.tangent(4, p * p + p, NONE), 1);
        }
    }
}
