/** The boundaries that "Terms" 2 and Promises 6 to 14 name: what is MARKED, ACTS, why they are REFUSED, undo. */
public final class ActsEdgesTest {
    private static final int NONE = Edges.NONE;
    private static final int LOWEST = Edges.LOWEST;
    private static final int HIGHEST = Edges.HIGHEST;
    private static final String T2 = "Terms 2";
    private static final String NINES = "conic 0 1 2 3 4 5 6;conic 1 9 9 9 9 9 9;conic 2 -9 -9 -9 -9 -9 -9;";
    /** Five POINTS, no four in a LINE: the one CONIC through them is yz + 3 zx + 3 xy. */
    private static final int[] FIVE = {0, 49, 56, 8, 17};

    public static void main(String[] args) {
        eightMarked();
        inARow();
        noneTwice();
        freeOfNone();
        freeDownToNone();
        anotherPrime();
        setEachNumber();
        sumOfAlikeOnes();
        sumOfAnyTimes();
        turnModuloThePrime();
        twistEachHow();
        throughByItsFirst();
        throughModuloThePrime();
        throughAnyFive();
        unmark();
        noSuchConic();
        noSuchNumber();
        noSuchHow();
        noSuchPrime();
        noSuchPoint();
        valuesBeyond();
        soAlready();
        twistSoAlready();
        allWouldBeZero();
        eightAreMarked();
        setToTheLimit();
        sumToTheLimit();
        twistToTheLimit();
        sumAndTwistBeyondInAnyNumber();
        noDual();
        noneThrough();
        oneBeforeTwo();
        oneBeforeThree();
        oneBeforeFour();
        oneBeforeFiveAndTen();
        twoBeforeThree();
        whyOfLevels();
        whyOfAnotherLevel();
        whyOfTheLatest();
        undoOfEight();
        undoNone();
        undoOfNoneRefused();
        undoOfEachAct();
        Due.end("ActsEdgesTest");
    }

    private static ConicDesk withFive() {
        return Edges.desk(Edges.marks(7, FIVE));
    }

    private static void eightMarked() {
        Due.sentence(T2, "MARKED are POINTS, at most 8");
        for (int p : Edges.PRIMES) {
            ConicDesk desk = Edges.desk("prime " + p + ";");
            for (int k = 0; k < 8; k++) {
                Due.is("count(2), p being " + p, desk.count(2), k);
                Due.is("mark", desk.mark(k, false), 0);
            }
            Due.is("count(2)", desk.count(2), 8);
            Due.is("a 9th one", desk.mark(8, false), 3);
            Due.is("count(2)", desk.count(2), 8);
            Due.is("marked(8)", desk.marked(8), NONE);
        }
    }

    private static void inARow() {
        Due.sentence(T2, "in a row");
        ConicDesk desk = new ConicDesk();
        int[] points = {56, 0, 49, 7, 48, 50, 1, 55};
        for (int point : points) {
            desk.mark(point, false);
        }
        for (int k = 0; k < 8; k++) {
            Due.is("marked(" + k + ")", desk.marked(k), points[k]);
        }
        desk.mark(56, true);
        desk.mark(48, true);
        desk.mark(55, true);
        int[] left = {0, 49, 7, 50, 1, NONE};
        for (int k = 0; k < 6; k++) {
            Due.is("marked(" + k + ") of five", desk.marked(k), left[k]);
        }
        desk.mark(56, false);
        Due.is("what comes again is last", desk.marked(5), 56);
    }

    private static void noneTwice() {
        Due.sentence(T2, "none twice");
        ConicDesk desk = new ConicDesk();
        for (int point : new int[] {0, 56}) {
            Due.refused("mark " + point, desk, desk.mark(point, false), 0, 0);
            Due.refused("once more", desk, desk.mark(point, false), 2, 0);
        }
        Due.is("count(2)", desk.count(2), 2);
        Due.is("unmark", desk.mark(0, true), 0);
        Due.is("it can come again", desk.mark(0, false), 0);
    }

    private static void freeOfNone() {
        Due.sentence(T2, "its FREE: 6 less the RANK of the rows (xx, yy, zz, yz, zx, xy) of these");
        for (int p : Edges.PRIMES) {
            Due.is("of none, p being " + p, Edges.desk("prime " + p + ";").count(3), 6);
            // Three of a LINE tell it whole: a fourth one there, and all others, lessen FREE no more.
            ConicDesk line = Edges.desk("prime " + p + ";");
            int[] free = {5, 4, 3, 3};
            int[] points = {p * p, p * p + p, p * p + 1, p * p + 2};
            for (int k = 0; k < 4; k++) {
                line.mark(points[k], false);
                Due.is("in a line, p being " + p, line.count(3), free[k]);
            }
            // With p and 1 POINTS of one CONIC 1 is left, if they are five.
            ConicDesk proper = Edges.desk("prime " + p + ";");
            for (int y = 0; y < Math.min(p, 8); y++) {
                proper.mark(p * y + y * y % p, false);
                Due.is("on yy = zx, p being " + p, proper.count(3), Math.max(1, 5 - y));
            }
        }
    }

    private static void freeDownToNone() {
        Due.sentence(T2, "FREE: 6 less the RANK");
        ConicDesk desk = withFive();
        Due.is("of five", desk.count(3), 1);
        desk.mark(7, false);
        Due.is("of six", desk.count(3), 0);
        desk.mark(9, false);
        Due.is("of seven", desk.count(3), 0);
        desk.mark(20, false);
        Due.is("of eight", desk.count(3), 0);
    }

    private static void anotherPrime() {
        Due.sentence(T2, "Another PRIME: none is MARKED any more.");
        for (int p : Edges.PRIMES) {
            ConicDesk desk = new ConicDesk();
            for (int k = 0; k < 8; k++) {
                desk.mark(k, false);
            }
            desk.set(3, 5, -99);
            desk.prime(p);
            Due.numbers("the conics stay", desk, 3, 1, 0, 0, 0, 0, -99);
            Due.is("count(2), p being " + p, desk.count(2), p == 7 ? 8 : 0);
            Due.is("marked(0)", desk.marked(0), p == 7 ? 0 : NONE);
            Due.is("count(3)", desk.count(3), p == 7 ? 2 : 6);
            Due.is("a prime that can't be", desk.prime(9), 1);
            Due.is("count(2)", desk.count(2), p == 7 ? 8 : 0);
        }
    }

    private static void setEachNumber() {
        Due.sentence("Promise 7", "SET number i (0 to 5: a, b, c, f, g, h) of a CONIC.");
        for (int conic = 0; conic < 6; conic++) {
            for (int i = 0; i < 6; i++) {
                ConicDesk desk = new ConicDesk();
                Due.refused("set " + conic + " " + i, desk, desk.set(conic, i, 7 + i), 0, 0);
                for (int k = 0; k < 6; k++) {
                    Due.is("number " + k, desk.conic(conic, 10 + k), k == i ? 7 + i : k == 0 ? 1 : 0);
                }
            }
        }
    }

    private static void sumOfAlikeOnes() {
        Due.sentence("Promise 8", "a CONIC becomes x times one and y times another one (any of them alike)");
        int[][] calls = {{3, 0, 1}, {0, 0, 1}, {1, 0, 1}, {3, 0, 0}, {0, 0, 0}, {5, 1, 0}};
        for (int[] c : calls) {
            ConicDesk desk = Edges.desk("conic 0 1 2 3 4 5 6;conic 1 6 -5 4 -3 2 -1;");
            int[][] rows = {{1, 2, 3, 4, 5, 6}, {6, -5, 4, -3, 2, -1}};
            Due.refused("sum", desk, desk.sum(c[0], c[1], 3, c[2], -4), 0, 0);
            for (int i = 0; i < 6; i++) {
                Due.is("number " + i, desk.conic(c[0], 10 + i), 3 * rows[c[1]][i] - 4 * rows[c[2]][i]);
            }
            for (int other = 0; other < 2; other++) {
                if (other != c[0]) {
                    Due.numbers("the other one stays", desk, other, rows[other]);
                }
            }
        }
    }

    private static void sumOfAnyTimes() {
        Due.sentence(T2, "x, y, v beyond -99 to 99");
        for (int times : new int[] {-99, -98, -1, 0, 1, 98, 99}) {
            ConicDesk desk = Edges.desk("conic 1 0 1 0 0 0 0;");
            Due.refused("x " + times, desk, desk.sum(2, 0, times, 1, 1), 0, 0);
            Due.numbers("x " + times, desk, 2, times, 1, 0, 0, 0, 0);
            Due.refused("y " + times, desk, desk.sum(2, 0, 1, 1, times), 0, 0);
            Due.numbers("y " + times, desk, 2, 1, times, 0, 0, 0, 0);
        }
        Due.sentence(T2, "2 so already (PRIME, SET; MARK");
        ConicDesk desk = Edges.desk(NINES);
        Due.refused("of no SUM: the same", desk, desk.sum(0, 0, 1, 1, 0), 0, 0);
        Due.is("count(4)", desk.count(4), 1);
        Due.numbers("the same", desk, 0, 1, 2, 3, 4, 5, 6);
    }

    private static void turnModuloThePrime() {
        Due.sentence(T2, "(DUAL, THROUGH: numbers 0 to p - 1.)");
        for (int p : Edges.PRIMES) {
            int[][] rows = {{1, 1, 1, 0, 0, 0}, {0, 1, 0, 0, -1, 0}, {-99, 98, 97, 0, 0, 0}, {-1, -1, -1, 0, 0, 0},
                {0, 0, 0, 99, -98, 97}, {50, -51, 52, 99, -98, 97}};
            for (int[] n : rows) {
                ConicDesk desk = Edges.desk("prime " + p + ";");
                for (int i = 5; i >= 0; i--) {
                    desk.set(3, i, n[i]);
                }
                boolean proper = desk.conic(3, 1) == 4;
                Due.is("turn, p being " + p, desk.turn(5, 3), proper ? 0 : 5);
                long[] dual = {4 * n[1] * n[2] - n[3] * n[3], 4 * n[0] * n[2] - n[4] * n[4], 4 * n[0] * n[1] - n[5] * n[5],
                    2 * (n[4] * n[5] - 2 * n[0] * n[3]), 2 * (n[3] * n[5] - 2 * n[1] * n[4]), 2 * (n[3] * n[4] - 2 * n[2] * n[5])};
                for (int i = 0; i < 6; i++) {
                    long due = proper ? Math.floorMod(dual[i], (long) p) : i == 0 ? 1 : 0;
                    Due.is("number " + i + " of the dual, p being " + p, desk.conic(5, 10 + i), due);
                }
            }
        }
    }

    private static void twistEachHow() {
        Due.sentence(T2, "how 0: x and y change places, 1: y and z do, 2: x becomes x and y together");
        int[][] due = {{2, 1, 3, 5, 4, 6}, {1, 3, 2, 4, 6, 5}, {1, 9, 3, 9, 5, 8}};
        for (int how = 0; how < 3; how++) {
            ConicDesk desk = Edges.desk("conic 5 1 2 3 4 5 6;");
            Due.refused("how " + how, desk, desk.twist(5, how), 0, 0);
            Due.numbers("how " + how, desk, 5, due[how]);
        }
    }

    private static void throughByItsFirst() {
        Due.sentence(T2, "with the first of a, b, c, f, g, h that is not 0 being 1");
        // Through five POINTS of each: xx + xy - xz - yz, .., xy.
        int[][] dues = {{1, 0, 0, 6, 6, 1}, {0, 1, 0, 0, 6, 0}, {0, 0, 1, 0, 0, 6}, {0, 0, 0, 1, 3, 3}, {0, 0, 0, 0, 1, 2},
            {0, 0, 0, 0, 0, 1}};
        for (int lead = 0; lead < 6; lead++) {
            ConicDesk desk = new ConicDesk();
            int[] due = dues[lead];
            int marked = 0;
            for (int point = 0; point < 57 && marked < 8; point++) {
                int x = desk.place(point, 0);
                int y = desk.place(point, 1);
                int z = desk.place(point, 2);
                int value = due[0] * x * x + due[1] * y * y + due[2] * z * z + due[3] * y * z + due[4] * z * x + due[5] * x * y;
                if (value % 7 == 0 && desk.freed(point) < desk.count(3)) {
                    Due.is("mark " + point, desk.mark(point, false), 0);
                    marked++;
                }
            }
            Due.is("five are marked", marked, 5);
            Due.is("FREE", desk.count(3), 1);
            Due.refused("through", desk, desk.through(4), 0, 0);
            Due.numbers("led by " + Edges.NUMBERS[lead], desk, 4, due);
            for (int i = 0; i < 6; i++) {
                Due.is("only(" + i + ")", desk.only(i), due[i]);
            }
        }
    }

    private static void throughModuloThePrime() {
        Due.sentence(T2, "THROUGH: a CONIC becomes the one of the FAMILY, if FREE is 1");
        for (int p : Edges.PRIMES) {
            // yy = zx has (1 : y : yy) and (0 : 0 : 1); over 3 these are four, and one more tells two LINES.
            ConicDesk desk = Edges.desk("prime " + p + ";");
            desk.mark(p * p + p, false);
            for (int y = 0; y < Math.min(p, 4); y++) {
                desk.mark(p * y + y * y % p, false);
            }
            if (p == 3) {
                Due.is("of four FREE is 2", desk.count(3), 2);
                Due.refused("through", desk, desk.through(0), 10, 11);
                Due.is("a fifth one, (0 : 1 : 0)", desk.mark(9, false), 0);
            }
            Due.is("FREE", desk.count(3), 1);
            Due.refused("through, p being " + p, desk, desk.through(1), 0, 0);
            for (int k = 0; k < 5; k++) {
                Due.is("it has the marked ones", desk.lies(1, desk.marked(k)), 0);
            }
            if (p > 3) {
                Due.numbers("yy - zx", desk, 1, 0, 1, 0, 0, p - 1, 0);
            }
        }
    }

    private static void throughAnyFive() {
        Due.sentence(T2, "FAMILY: all CONICS (numbers modulo p) through all MARKED ones");
        for (int p : Edges.PRIMES) {
            for (int step = 1; step < 30; step++) {
                ConicDesk desk = Edges.desk("prime " + p + ";");
                for (int k = 1; desk.count(3) > 1 && k < 40; k++) {
                    int point = (Edges.points(p) - 1 - step * k * k % Edges.points(p));
                    if (desk.freed(point) == desk.count(3) - 1) {
                        desk.mark(point, false);
                    }
                }
                if (desk.count(3) != 1) {
                    continue;
                }
                Due.is("five are marked", desk.count(2), 5);
                Due.is("through, p being " + p, desk.through(2), 0);
                int lead = 0;
                int[] numbers = new int[6];
                for (int i = 5; i >= 0; i--) {
                    numbers[i] = desk.conic(2, 10 + i);
                    Due.holds("0 to p - 1", numbers[i] >= 0 && numbers[i] < p);
                    lead = numbers[i] == 0 ? lead : numbers[i];
                }
                Due.is("the first is 1", lead, 1);
                for (int k = 0; k < 5; k++) {
                    Due.is("it has the marked ones", Edges.value(p, numbers, desk.marked(k)), 0);
                }
            }
        }
    }

    private static void unmark() {
        Due.sentence("Promise 12", "MARK, or (off) UNMARK.");
        ConicDesk desk = new ConicDesk();
        for (int point : new int[] {0, 6, 7, 48, 49, 55, 56}) {
            Due.refused("unmark of none, " + point, desk, desk.mark(point, true), 2, 0);
            Due.refused("mark " + point, desk, desk.mark(point, false), 0, 0);
            Due.is("count(2)", desk.count(2), 1);
            Due.refused("mark " + point, desk, desk.mark(point, false), 2, 0);
            Due.refused("unmark " + point, desk, desk.mark(point, true), 0, 0);
            Due.is("count(2)", desk.count(2), 0);
        }
    }

    private static void noSuchConic() {
        Due.sentence(T2, "1 a number that can't be (no such CONIC");
        ConicDesk desk = withFive();
        desk.sum(0, 0, 1, 0, 1);
        desk.sum(5, 0, 1, 0, 1);
        Due.is("set of 0", desk.set(0, 1, 1), 0);
        Due.is("set of 5", desk.set(5, 1, 1), 0);
        for (int no : Edges.NOT_OF_SIX) {
            String told = " of " + no;
            Due.refused("set" + told, desk, desk.set(no, 1, 5), 1, 0);
            Due.refused("sum to" + told, desk, desk.sum(no, 0, 1, 1, 1), 1, 0);
            Due.refused("sum one" + told, desk, desk.sum(0, no, 1, 1, 1), 1, 0);
            Due.refused("sum other" + told, desk, desk.sum(0, 1, 1, no, 1), 1, 0);
            Due.refused("turn to" + told, desk, desk.turn(no, 0), 1, 0);
            Due.refused("turn of" + told, desk, desk.turn(0, no), 1, 0);
            Due.refused("twist" + told, desk, desk.twist(no, 2), 1, 0);
            Due.refused("through" + told, desk, desk.through(no), 1, 0);
        }
        Due.is("count(4)", desk.count(4), 4);
        for (int conic : new int[] {0, 5}) {
            ConicDesk can = withFive();
            can.prime(7);
            Due.is("sum to " + conic, can.sum(conic, conic, 2, conic, 1), 0);
            Due.is("twist " + conic, can.twist(conic, 2), 0);
            Due.is("through " + conic, can.through(conic), 0);
            Due.is("turn of and to " + conic, can.turn(conic, conic), 0);
        }
    }

    private static void noSuchNumber() {
        Due.sentence(T2, "1 a number that can't be (.. number i");
        ConicDesk desk = new ConicDesk();
        Due.refused("set number 0", desk, desk.set(0, 0, 5), 0, 0);
        Due.refused("set number 5", desk, desk.set(0, 5, 5), 0, 0);
        for (int i : Edges.NOT_OF_SIX) {
            Due.refused("set number " + i, desk, desk.set(0, i, 7), 1, 0);
        }
        Due.numbers("left", desk, 0, 5, 0, 0, 0, 0, 5);
        Due.is("count(4)", desk.count(4), 2);
    }

    private static void noSuchHow() {
        Due.sentence(T2, "1 a number that can't be (.. how");
        ConicDesk desk = Edges.desk(NINES);
        int[] wrong = {-1, 3, -2, 4, LOWEST, LOWEST + 1, HIGHEST, HIGHEST - 1, 256, 257, 258, Edges.UNKNOWN};
        for (int how : wrong) {
            Due.refused("twist, how " + how, desk, desk.twist(0, how), 1, 0);
        }
        Due.numbers("left", desk, 0, 1, 2, 3, 4, 5, 6);
        Due.refused("how 0", desk, desk.twist(0, 0), 0, 0);
        Due.refused("how 2", desk, desk.twist(0, 2), 0, 0);
    }

    private static void noSuchPrime() {
        Due.sentence(T2, "1 a number that can't be (.. PRIME, POINT, how;");
        int[] wrong = {-1, 0, 1, 2, 4, 9, 15, 21, 22, 24, 25, 29, 31, -3, -7, -23, LOWEST, LOWEST + 7, HIGHEST, HIGHEST - 7, 256 + 3,
            (1 << 16) + 3, Edges.UNKNOWN};
        for (int p : Edges.PRIMES) {
            ConicDesk desk = Edges.desk(Edges.marks(p, 0, p * p + p));
            for (int no : wrong) {
                Due.refused("prime(" + no + ")", desk, desk.prime(no), 1, 0);
            }
            Due.is("the PRIME stays", desk.count(0), p);
            Due.is("MARKED ones stay", desk.count(2), 2);
            Due.is("count(4)", desk.count(4), 0);
            Due.refused("another one that can be", desk, desk.prime(p == 23 ? 3 : 23), 0, 0);
            Due.is("count(2)", desk.count(2), 0);
        }
    }

    private static void noSuchPoint() {
        Due.sentence(T2, "1 a number that can't be (.. POINT");
        for (int p : Edges.PRIMES) {
            ConicDesk desk = Edges.desk("prime " + p + ";");
            Due.refused("mark 0", desk, desk.mark(0, false), 0, 0);
            Due.refused("mark the last", desk, desk.mark(p * p + p, false), 0, 0);
            for (int point : Edges.notOfPlane(p)) {
                Due.refused("mark " + point, desk, desk.mark(point, false), 1, 0);
                Due.refused("unmark " + point, desk, desk.mark(point, true), 1, 0);
            }
            Due.is("count(2)", desk.count(2), 2);
            Due.is("count(4)", desk.count(4), 2);
        }
    }

    private static void valuesBeyond() {
        Due.sentence(T2, "1 a number that can't be (.. x, y, v beyond -99 to 99)");
        ConicDesk desk = new ConicDesk();
        for (int v : Edges.BEYOND_99) {
            Due.refused("set to " + v, desk, desk.set(0, 1, v), 1, 0);
            Due.refused("sum of x " + v, desk, desk.sum(1, 0, v, 0, 1), 1, 0);
            Due.refused("sum of y " + v, desk, desk.sum(1, 0, 1, 0, v), 1, 0);
            Due.refused("sum of both " + v, desk, desk.sum(1, 0, v, 0, v), 1, 0);
        }
        Due.is("count(4)", desk.count(4), 0);
        for (int v : new int[] {99, -99}) {
            Due.refused("set to " + v, desk, desk.set(0, 1, v), 0, 0);
            Due.refused("sum of x " + v, desk, desk.sum(1, 2, v, 3, 0), 0, 0);
            Due.refused("sum of y " + v, desk, desk.sum(1, 2, 0, 3, v), 0, 0);
        }
    }

    private static void soAlready() {
        Due.sentence(T2, "2 so already (PRIME, SET; MARK: it is, UNMARK: it is not)");
        for (int p : Edges.PRIMES) {
            ConicDesk desk = new ConicDesk();
            desk.prime(p);
            Due.refused("prime(" + p + ")", desk, desk.prime(p), 2, 0);
        }
        for (int i = 0; i < 6; i++) {
            for (int v : new int[] {-99, -1, 1, 99}) {
                ConicDesk desk = new ConicDesk();
                desk.set(2, i == 0 ? 1 : 0, 2);
                desk.set(2, i, v == 1 ? 2 : 1);
                Due.refused("set " + i + " to " + v, desk, desk.set(2, i, v), 0, 0);
                Due.refused("set it again", desk, desk.set(2, i, v), 2, 0);
                Due.refused("set to what is next", desk, desk.set(2, i, v < 0 ? v + 1 : v - 1), 0, 0);
            }
            ConicDesk zero = Edges.desk(Edges.alone((i + 1) % 6, 1));
            Due.refused("set a 0 to 0", zero, zero.set(0, i, 0), 2, 0);
        }
        ConicDesk desk = new ConicDesk();
        for (int k = 0; k < 8; k++) {
            Due.refused("unmark " + 7 * k, desk, desk.mark(7 * k, true), 2, 0);
            Due.refused("mark " + 7 * k, desk, desk.mark(7 * k, false), 0, 0);
        }
        for (int k = 0; k < 8; k++) {
            Due.refused("mark again " + 7 * k, desk, desk.mark(7 * k, false), 2, 0);
            Due.refused("unmark of another", desk, desk.mark(7 * k + 1, true), 2, 0);
        }
    }

    private static void twistSoAlready() {
        Due.sentence(T2, "(TWIST that leaves all numbers as they are is no other one: 2.)");
        String[][] same = {{"3 3 7 2 2 1", "0 0 1 0 0 0", "0 0 0 0 0 1", "-9 -9 0 9 9 0"},
            {"5 8 8 1 4 4", "1 0 0 0 0 0", "0 0 0 1 0 0", "0 -1 -1 0 9 9"},
            {"0 1 1 1 0 0", "0 0 1 0 0 0", "0 1 0 0 0 0", "0 0 0 99 0 0", "0 99 -99 99 0 0"}};
        String[][] other = {{"3 4 7 2 2 1", "3 3 7 2 3 1", "1 0 0 0 0 0", "0 0 0 1 0 0", "0 0 0 0 1 0"},
            {"5 8 9 1 4 4", "5 8 8 1 4 5", "0 1 0 0 0 0", "0 0 0 0 1 0", "0 0 0 0 0 1"},
            {"1 0 0 0 0 0", "0 0 0 0 1 0", "0 0 0 0 0 1", "1 0 0 0 0 -1", "-2 0 0 0 0 2", "1 9 9 9 0 -2"}};
        for (int how = 0; how < 3; how++) {
            for (String numbers : same[how]) {
                ConicDesk desk = Edges.desk("conic 3 " + numbers + ";");
                Due.refused("twist " + how + " of " + numbers, desk, desk.twist(3, how), 2, 0);
                Due.is("count(4)", desk.count(4), 0);
            }
            for (String numbers : other[how]) {
                ConicDesk desk = Edges.desk("conic 3 " + numbers + ";");
                Due.refused("twist " + how + " of " + numbers, desk, desk.twist(3, how), 0, 0);
                Due.is("count(4)", desk.count(4), 1);
            }
        }
    }

    private static void allWouldBeZero() {
        Due.sentence(T2, "3 all numbers of a CONIC would be 0");
        for (int i = 0; i < 6; i++) {
            for (int v : new int[] {-99, -1, 1, 99}) {
                ConicDesk desk = Edges.desk(Edges.alone(i, v));
                Due.refused("set " + i, desk, desk.set(0, i, 0), 3, 0);
                Due.is("it stays", desk.conic(0, 10 + i), v);
            }
        }
        ConicDesk desk = Edges.desk(NINES);
        Due.refused("sum of no times", desk, desk.sum(3, 0, 0, 1, 0), 3, 0);
        Due.refused("sum of two", desk, desk.sum(3, 1, 1, 2, 1), 3, 0);
        Due.refused("sum of two", desk, desk.sum(1, 1, 99, 2, 99), 3, 0);
        Due.refused("sum of one", desk, desk.sum(0, 0, 99, 0, -99), 3, 0);
        Due.numbers("left", desk, 0, 1, 2, 3, 4, 5, 6);
        Due.is("count(4)", desk.count(4), 0);
        for (int i = 0; i < 6; i++) {
            ConicDesk left = Edges.desk("conic 0 1 1 1 1 1 1;conic 1 1 1 1 1 1 1;");
            Due.is("another number", left.set(1, i, 2), 0);
            Due.refused("sum, number " + i + " being left", left, left.sum(2, 0, -1, 1, 1), 0, 0);
            Due.is("it", left.conic(2, 10 + i), 1);
        }
        // All are 0 modulo the PRIME alone: no reason.
        ConicDesk field = new ConicDesk();
        Due.refused("set to 7", field, field.set(0, 0, 7), 0, 0);
        Due.is("kind", field.conic(0, 1), 0);
        Due.refused("sum to 7", field, field.sum(1, 1, 3, 1, 4), 0, 0);
    }

    private static void eightAreMarked() {
        Due.sentence(T2, "3 .. or (MARK) eight are MARKED");
        ConicDesk desk = new ConicDesk();
        for (int k = 0; k < 8; k++) {
            Due.refused("mark " + k, desk, desk.mark(k, false), 0, 0);
        }
        for (int point : new int[] {8, 49, 56}) {
            Due.refused("mark " + point, desk, desk.mark(point, false), 3, 0);
        }
        Due.is("count(2)", desk.count(2), 8);
        Due.refused("unmark", desk, desk.mark(7, true), 0, 0);
        Due.refused("mark", desk, desk.mark(56, false), 0, 0);
        Due.refused("mark", desk, desk.mark(7, false), 3, 0);
        Due.refused("another prime", desk, desk.prime(3), 0, 0);
        Due.refused("mark", desk, desk.mark(8, false), 0, 0);
    }

    private static void setToTheLimit() {
        Due.sentence(T2, "x, y, v beyond -99 to 99); .. 4 one of its numbers would be beyond -99 to 99");
        ConicDesk desk = new ConicDesk();
        Due.refused("set 99", desk, desk.set(0, 0, 99), 0, 0);
        Due.refused("set 100", desk, desk.set(0, 0, 100), 1, 0);
        Due.refused("set -99", desk, desk.set(0, 0, -99), 0, 0);
        Due.refused("set -100", desk, desk.set(0, 0, -100), 1, 0);
    }

    private static void sumToTheLimit() {
        Due.sentence(T2, "4 one of its numbers would be beyond -99 to 99");
        for (int i = 0; i < 6; i++) {
            for (int sign = -1; sign < 2; sign += 2) {
                ConicDesk desk = Edges.desk(Edges.alone(i, sign));
                Due.refused("98 and 1", desk, desk.sum(1, 0, 98, 0, 1), 0, 0);
                Due.is("is 99", desk.conic(1, 10 + i), 99 * sign);
                Due.refused("99 and 1", desk, desk.sum(1, 0, 99, 0, 1), 4, 0);
                Due.refused("50 and 50", desk, desk.sum(1, 0, 50, 0, 50), 4, 0);
                Due.refused("99 and 99", desk, desk.sum(1, 0, 99, 0, 99), 4, 0);
                Due.refused("-99 and 99 of 99", desk, desk.sum(1, 1, 99, 1, 99), 4, 0);
                Due.refused("-99 and 99 of 99", desk, desk.sum(1, 1, -99, 1, -99), 4, 0);
                Due.is("is 99 yet", desk.conic(1, 10 + i), 99 * sign);
                Due.refused("99 times 99 less 98 times it", desk, desk.sum(1, 1, 99, 1, -98), 0, 0);
                Due.is("count(4)", desk.count(4), 2);
            }
        }
    }

    private static void twistToTheLimit() {
        Due.sentence(T2, "TWIST of a CONIC: .. 4 one of its numbers would be beyond -99 to 99");
        // b becomes a + b + h, f becomes f + g, h becomes 2 a + h.
        String[] inside = {"0 99 0 0 1 0", "1 98 0 0 0 0", "0 0 0 98 1 0", "0 0 0 -98 -1 0", "49 0 0 0 0 1", "-49 0 0 0 0 -1",
            "-1 -98 0 0 0 0", "0 98 0 0 0 1", "99 99 0 0 0 -99", "50 49 0 99 -99 -99"};
        String[] beyond = {"1 99 0 0 0 0", "-1 -99 0 0 0 0", "0 0 0 99 1 0", "0 0 0 -99 -1 0", "50 0 0 0 0 0", "-50 0 0 0 0 0",
            "49 0 0 0 0 2", "-49 0 0 0 0 -2", "0 99 0 0 0 1", "0 -99 0 0 0 -1", "99 99 99 99 99 99", "-99 -99 -99 -99 -99 -99"};
        for (String numbers : inside) {
            ConicDesk desk = Edges.desk("conic 0 " + numbers + ";");
            Due.refused("twist 2 of " + numbers, desk, desk.twist(0, 2), 0, 0);
        }
        for (String numbers : beyond) {
            ConicDesk desk = Edges.desk("conic 0 " + numbers + ";");
            Due.refused("twist 2 of " + numbers, desk, desk.twist(0, 2), 4, 0);
            Due.is("count(4)", desk.count(4), 0);
        }
        Due.numbers("99 is in", twisted("0 98 0 98 1 1"), 0, 0, 99, 0, 99, 1, 1);
        Due.numbers("-99 is in", twisted("-49 -49 0 -98 -1 -1"), 0, -49, -99, 0, -99, -1, -99);
        for (int how = 0; how < 2; how++) {
            ConicDesk desk = Edges.desk("conic 0 99 -99 98 99 -99 98;");
            Due.refused("twist " + how + " is never beyond", desk, desk.twist(0, how), 0, 0);
        }
    }

    private static ConicDesk twisted(String numbers) {
        ConicDesk desk = Edges.desk("conic 0 " + numbers + ";");
        Due.refused("twist 2 of " + numbers, desk, desk.twist(0, 2), 0, 0);
        return desk;
    }

    private static void sumAndTwistBeyondInAnyNumber() {
        Due.sentence(T2, "4 one of its numbers");
        for (int i = 0; i < 6; i++) {
            ConicDesk desk = Edges.desk("conic 0 1 1 1 1 1 1;");
            Due.is("50", desk.set(0, i, 50), 0);
            Due.refused("one of 100", desk, desk.sum(1, 0, 2, 0, 0), 4, 0);
            Due.refused("one of -100", desk, desk.sum(1, 0, 0, 0, -2), 4, 0);
            Due.is("49", desk.set(0, i, 49), 0);
            Due.refused("one of 98", desk, desk.sum(1, 0, 2, 0, 0), 0, 0);
        }
    }

    private static void noDual() {
        Due.sentence(T2, "5 there is no DUAL, it comes of 6, 7, 8 or 9 (KIND 0, 1, 2, 3)");
        for (int p : Edges.PRIMES) {
            String[] kinds = {p + " 0 0 0 0 0", "0 0 2 0 0 0", "0 0 0 1 1 0", "1 " + -Edges.residue(p, false) + " 0 0 0 0",
                "0 1 0 0 -1 0"};
            for (int kind = 0; kind < 5; kind++) {
                ConicDesk desk = Edges.desk("prime " + p + ";conic 2 " + kinds[kind] + ";");
                Due.is("kind", desk.conic(2, 1), kind);
                Due.refused("turn of kind " + kind, desk, desk.turn(4, 2), kind == 4 ? 0 : 5, kind == 4 ? 0 : 6 + kind);
                Due.refused("onto itself", desk, desk.turn(2, 2), kind == 4 ? 0 : 5, kind == 4 ? 0 : 6 + kind);
                Due.is("count(4)", desk.count(4), kind == 4 ? 2 : 0);
            }
        }
    }

    private static void noneThrough() {
        Due.sentence(T2, "10 there is none THROUGH, it comes of 11 (FREE is more than 1), or 12 (0)");
        ConicDesk desk = new ConicDesk();
        for (int k = 0; k < 5; k++) {
            Due.is("FREE", desk.count(3), 6 - k);
            Due.refused("through, FREE being " + (6 - k), desk, desk.through(k), 10, 11);
            Due.is("mark", desk.mark(FIVE[k], false), 0);
        }
        Due.is("FREE", desk.count(3), 1);
        Due.refused("through, FREE being 1", desk, desk.through(0), 0, 0);
        for (int point : new int[] {7, 9, 20}) {
            Due.is("mark", desk.mark(point, false), 0);
            Due.is("FREE", desk.count(3), 0);
            Due.refused("through, FREE being 0", desk, desk.through(0), 10, 12);
        }
        ConicDesk line = Edges.desk(Edges.marks(7, 0, 1, 2, 3, 4, 5, 6, 49));
        Due.refused("of eight with FREE 2", line, line.through(0), 10, 11);
    }

    private static void oneBeforeTwo() {
        Due.sentence(T2, "REFUSED, the first of these: .. 1 a number that can't be .. 2 so already");
        ConicDesk desk = new ConicDesk();
        Due.refused("prime", desk, desk.prime(6), 1, 0);
        Due.refused("unmark of no point", desk, desk.mark(57, true), 1, 0);
        Due.refused("unmark of no point", desk, desk.mark(-1, true), 1, 0);
        Due.refused("twist of no conic, so already", desk, desk.twist(6, 1), 1, 0);
        Due.refused("twist of no how, so already", desk, desk.twist(0, 3), 1, 0);
        Due.refused("set of no number, so already", desk, desk.set(0, 6, 0), 1, 0);
        Due.refused("set of no conic, so already", desk, desk.set(6, 0, 1), 1, 0);
    }

    private static void oneBeforeThree() {
        Due.sentence(T2, "REFUSED, the first of these: .. 1 a number that can't be .. 3 all numbers of a CONIC would be 0, or (MARK) eight are MARKED");
        ConicDesk desk = Edges.desk(Edges.marks(7, 0, 1, 2, 3, 4, 5, 6, 7));
        Due.refused("mark of no point, eight being marked", desk, desk.mark(57, false), 1, 0);
        Due.refused("mark of no point, eight being marked", desk, desk.mark(-1, false), 1, 0);
        Due.refused("sum of 0 to no conic", desk, desk.sum(6, 0, 0, 0, 0), 1, 0);
        Due.refused("sum of 0 of no conic", desk, desk.sum(0, 6, 0, 0, 0), 1, 0);
        Due.refused("sum of 0 of no other", desk, desk.sum(0, 0, 0, -1, 0), 1, 0);
        Due.refused("sum of 0 with x beyond", desk, desk.sum(0, 0, 100, 0, -100), 1, 0);
        Due.refused("set of 0 of no number", desk, desk.set(0, -1, 0), 1, 0);
        Due.refused("set of 0 of no conic", desk, desk.set(-1, 0, 0), 1, 0);
    }

    private static void oneBeforeFour() {
        Due.sentence(T2, "REFUSED, the first of these: .. 1 a number that can't be .. 4 one of its numbers would be beyond");
        ConicDesk desk = Edges.desk("conic 0 99 99 99 99 99 99;conic 5 99 99 99 99 99 99;");
        Due.refused("sum beyond to no conic", desk, desk.sum(6, 0, 99, 0, 99), 1, 0);
        Due.refused("sum beyond of x beyond", desk, desk.sum(0, 0, 100, 0, 99), 1, 0);
        Due.refused("sum beyond of y beyond", desk, desk.sum(0, 0, 99, 0, -100), 1, 0);
        Due.refused("twist beyond of no conic", desk, desk.twist(6, 2), 1, 0);
        Due.refused("set beyond", desk, desk.set(0, 0, 100), 1, 0);
        Due.refused("twist beyond", desk, desk.twist(5, 2), 4, 0);
    }

    private static void oneBeforeFiveAndTen() {
        Due.sentence(T2, "REFUSED, the first of these: .. 1 a number that can't be .. 5 there is no DUAL .. 10 there is none THROUGH");
        ConicDesk desk = new ConicDesk();
        Due.refused("turn of kind 1 to no conic", desk, desk.turn(6, 0), 1, 0);
        Due.refused("turn of no conic", desk, desk.turn(0, 6), 1, 0);
        Due.refused("through to no conic, FREE being 6", desk, desk.through(6), 1, 0);
        Due.refused("through to no conic, FREE being 6", desk, desk.through(-1), 1, 0);
        ConicDesk none = Edges.desk(Edges.marks(7, 0, 49, 56, 8, 17, 7));
        Due.refused("through to no conic, FREE being 0", none, none.through(6), 1, 0);
        Due.refused("through, FREE being 0", none, none.through(5), 10, 12);
    }

    private static void twoBeforeThree() {
        Due.sentence(T2, "REFUSED, the first of these: .. 2 so already .. 3 .. (MARK) eight are MARKED");
        ConicDesk desk = Edges.desk(Edges.marks(7, 0, 1, 2, 3, 4, 5, 6, 7));
        for (int k = 0; k < 8; k++) {
            Due.refused("mark of a marked one, eight being marked", desk, desk.mark(k, false), 2, 0);
        }
        Due.refused("unmark of another, eight being marked", desk, desk.mark(8, true), 2, 0);
        Due.refused("mark of another", desk, desk.mark(8, false), 3, 0);
    }

    private static void whyOfLevels() {
        Due.sentence("Promise 13", "level 0, or what it comes of, level 1 (of 5, 10): the reason. 0: it was not, there is no such level.");
        ConicDesk desk = Edges.desk(NINES + "conic 4 7 0 0 0 0 0;conic 5 0 0 0 0 0 1;");
        Due.is("why(0) of none", desk.why(0), 0);
        Due.is("why(1) of none", desk.why(1), 0);
        Due.refused("1 has no level 1", desk, desk.prime(4), 1, 0);
        Due.refused("2 has no level 1", desk, desk.prime(7), 2, 0);
        Due.refused("3 has no level 1", desk, desk.set(3, 0, 0), 3, 0);
        Due.refused("4 has no level 1", desk, desk.sum(0, 1, 99, 1, 99), 4, 0);
        Due.refused("5 of 6", desk, desk.turn(0, 4), 5, 6);
        Due.refused("5 of 7", desk, desk.turn(0, 3), 5, 7);
        Due.refused("5 of 8", desk, desk.turn(0, 5), 5, 8);
        Due.refused("10 of 11", desk, desk.through(0), 10, 11);
        Due.refused("what is not refused has none", desk, desk.set(3, 0, 5), 0, 0);
    }

    private static void whyOfAnotherLevel() {
        Due.sentence("Promise 13", "NONE: another level.");
        ConicDesk desk = new ConicDesk();
        int[] others = {-1, 2, 3, -2, LOWEST, LOWEST + 1, HIGHEST, HIGHEST - 1, 256, 257, Edges.UNKNOWN};
        for (int round = 0; round < 3; round++) {
            for (int level : others) {
                Due.is("why(" + level + ")", desk.why(level), NONE);
            }
            if (round == 0) {
                Due.refused("turn", desk, desk.turn(0, 0), 5, 7);
            } else {
                Due.refused("set", desk, desk.set(0, 0, 5 + round), 0, 0);
            }
        }
    }

    private static void whyOfTheLatest() {
        Due.sentence("Promise 13", "Why the latest ACT was REFUSED");
        ConicDesk desk = new ConicDesk();
        Due.refused("through", desk, desk.through(0), 10, 11);
        Due.refused("a like reason of another", desk, desk.turn(0, 0), 5, 7);
        Due.refused("one that has no level 1", desk, desk.set(0, 0, 1), 2, 0);
        Due.refused("one with", desk, desk.turn(0, 0), 5, 7);
        Due.refused("mark, not refused", desk, desk.mark(0, false), 0, 0);
        Due.refused("one with", desk, desk.turn(0, 0), 5, 7);
        Due.refused("prime, not refused", desk, desk.prime(3), 0, 0);
        Due.refused("one with", desk, desk.turn(0, 0), 5, 7);
        Due.refused("sum, not refused", desk, desk.sum(0, 0, 1, 0, 1), 0, 0);
        Due.refused("one with", desk, desk.turn(0, 0), 5, 7);
        Due.is("undo", desk.undo(), 2);
        Due.is("undo is no ACT, why(0)", desk.why(0), 5);
        Due.is("undo is no ACT, why(1)", desk.why(1), 7);
        Due.is("undo", desk.undo(), 1);
        Due.is("undo", desk.undo(), 0);
        Due.is("undo", desk.undo(), NONE);
        Due.is("nor is one that can't be, why(0)", desk.why(0), 5);
    }

    private static void undoOfEight() {
        Due.sentence(T2, "The latest 8 that were not REFUSED can be UNDONE.");
        Due.sentence("Promise 14", "The latest ACT is UNDONE: how many more can be.");
        for (int acts = 0; acts <= 18; acts++) {
            ConicDesk desk = new ConicDesk();
            for (int k = 1; k <= acts; k++) {
                Due.is("set", desk.set(0, 1, k), 0);
                Due.is("count(4) behind " + k, desk.count(4), Math.min(k, 8));
            }
            for (int left = Math.min(acts, 8); left > 0; left--) {
                Due.is("undo, " + left + " being left", desk.undo(), left - 1);
                Due.is("as before", desk.conic(0, 11), acts - Math.min(acts, 8) + left - 1);
                Due.is("count(4)", desk.count(4), left - 1);
            }
            Due.is("no more of " + acts, desk.undo(), NONE);
            Due.is("what can't be undone is left", desk.conic(0, 11), acts - Math.min(acts, 8));
            Due.is("count(4)", desk.count(4), 0);
        }
    }

    private static void undoNone() {
        Due.sentence("Promise 14", "NONE: none can.");
        ConicDesk desk = new ConicDesk();
        Due.is("of a new one", desk.undo(), NONE);
        Due.is("once more", desk.undo(), NONE);
        Due.is("set", desk.set(0, 1, 9), 0);
        Due.is("undo", desk.undo(), 0);
        Due.is("undo", desk.undo(), NONE);
        Due.is("as at first", desk.conic(0, 11), 0);
        Due.is("undone acts can be done again", desk.set(0, 1, 9), 0);
        Due.is("undo", desk.undo(), 0);
    }

    private static void undoOfNoneRefused() {
        Due.sentence(T2, "that were not REFUSED can be UNDONE");
        ConicDesk desk = Edges.desk(NINES);
        Due.is("set", desk.set(0, 1, 50), 0);
        int[] refused = {desk.prime(7), desk.prime(8), desk.set(0, 1, 50), desk.set(6, 0, 0), desk.sum(0, 1, 1, 2, 1),
            desk.sum(0, 1, 99, 1, 1), desk.turn(3, 4), desk.twist(4, 1), desk.twist(0, 3), desk.through(0), desk.mark(3, true),
            desk.mark(57, false)};
        int[] reasons = {2, 1, 2, 1, 3, 4, 5, 2, 1, 10, 2, 1};
        for (int k = 0; k < refused.length; k++) {
            Due.is("refused act " + k, refused[k], reasons[k]);
        }
        Due.is("count(4)", desk.count(4), 1);
        Due.is("undo", desk.undo(), 0);
        Due.numbers("before the one that was not", desk, 0, 1, 2, 3, 4, 5, 6);
    }

    private static void undoOfEachAct() {
        Due.sentence("Promise 14", "The latest ACT is UNDONE");
        ConicDesk desk = Edges.desk(Edges.marks(7, FIVE) + "conic 0 1 2 3 4 5 6;conic 1 1 1 1 0 0 0;");
        Due.is("twist", desk.twist(0, 0), 0);
        Due.is("undo", desk.undo(), 0);
        Due.numbers("untwisted", desk, 0, 1, 2, 3, 4, 5, 6);
        Due.is("sum", desk.sum(0, 0, 2, 1, 1), 0);
        Due.is("undo", desk.undo(), 0);
        Due.numbers("unsummed", desk, 0, 1, 2, 3, 4, 5, 6);
        Due.is("set", desk.set(0, 5, 9), 0);
        Due.is("undo", desk.undo(), 0);
        Due.numbers("unset", desk, 0, 1, 2, 3, 4, 5, 6);
        Due.is("turn", desk.turn(0, 1), 0);
        Due.is("undo", desk.undo(), 0);
        Due.numbers("unturned", desk, 0, 1, 2, 3, 4, 5, 6);
        Due.is("through", desk.through(0), 0);
        Due.is("undo", desk.undo(), 0);
        Due.numbers("not through", desk, 0, 1, 2, 3, 4, 5, 6);
        Due.is("unmark", desk.mark(0, true), 0);
        Due.is("undo", desk.undo(), 0);
        Due.is("the first is the first", desk.marked(0), 0);
        Due.is("the last is the last", desk.marked(4), 17);
        Due.is("mark", desk.mark(1, false), 0);
        Due.is("undo", desk.undo(), 0);
        Due.is("five", desk.count(2), 5);
        Due.is("prime", desk.prime(3), 0);
        Due.is("undo", desk.undo(), 0);
        Due.is("the prime", desk.count(0), 7);
        for (int k = 0; k < 5; k++) {
            Due.is("marked as before", desk.marked(k), FIVE[k]);
        }
    }
}
