/** The boundaries that "Terms" 1 and Promise 1 name: CONICS, the PRIME, SORT, POINTS and LINES, RANK and KIND. */
public final class TermsEdgesTest {
    private static final int NONE = Edges.NONE;
    private static final String T1 = "Terms 1";

    public static void main(String[] args) {
        numbersOfAConic();
        notAllZero();
        sixConics();
        atFirst();
        primes();
        sevenAtFirst();
        sortOfWholeOnes();
        sortOfPointsAndCrossingLines();
        sortOfLinesSideBySide();
        sortOfTheFarLine();
        moduloThePrime();
        firstNotZeroIsOne();
        numbersOfThePlane();
        voidOnes();
        rankAndKind();
        twoLinesOrOnePoint();
        properByTheLeastOfE();
        callsUpToTheLast();
        Due.end("TermsEdgesTest");
    }

    private static void numbersOfAConic() {
        Due.sentence(T1, "A CONIC is six whole numbers a b c f g h, -99 to 99 each");
        for (int i = 0; i < 6; i++) {
            ConicDesk desk = Edges.desk("conic 3 1 1 1 1 1 1;");
            Due.is("set " + Edges.NUMBERS[i] + " to 99", desk.set(3, i, 99), 0);
            Due.is("it is", desk.conic(3, 10 + i), 99);
            Due.is("set " + Edges.NUMBERS[i] + " to -99", desk.set(3, i, -99), 0);
            Due.is("it is", desk.conic(3, 10 + i), -99);
            for (int v : Edges.BEYOND_99) {
                Due.is("set " + Edges.NUMBERS[i] + " to " + v, desk.set(3, i, v), 1);
                Due.is("it stays", desk.conic(3, 10 + i), -99);
            }
        }
        ConicDesk told = Edges.desk("conic 0 99 99 99 99 99 99;conic 5 -99 -99 -99 -99 -99 -99;");
        Due.numbers("all 99", told, 0, 99, 99, 99, 99, 99, 99);
        Due.numbers("all -99", told, 5, -99, -99, -99, -99, -99, -99);
    }

    private static void notAllZero() {
        Due.sentence(T1, "A CONIC is six whole numbers .. not all 0");
        for (int i = 0; i < 6; i++) {
            for (int value : new int[] {1, -1}) {
                ConicDesk desk = Edges.desk(Edges.alone(i, value));
                Due.is(Edges.NUMBERS[i] + " alone is " + value, desk.conic(0, 10 + i), value);
                Due.refused("and would be 0", desk, desk.set(0, i, 0), 3, 0);
                Due.is("it stays", desk.conic(0, 10 + i), value);
                int other = (i + 1) % 6;
                Due.is("with another one", desk.set(0, other, 1), 0);
                Due.refused("it may be 0", desk, desk.set(0, i, 0), 0, 0);
                Due.is("it is", desk.conic(0, 10 + i), 0);
            }
        }
    }

    private static void sixConics() {
        Due.sentence(T1, "There are 6 of them, 0 to 5");
        ConicDesk desk = new ConicDesk();
        for (int conic = 0; conic < 6; conic++) {
            Due.is("set conic " + conic, desk.set(conic, 0, 20 + conic), 0);
        }
        for (int conic = 0; conic < 6; conic++) {
            Due.is("conic " + conic + " has its own", desk.conic(conic, 10), 20 + conic);
        }
        for (int conic : Edges.NOT_OF_SIX) {
            Due.is("set conic " + conic, desk.set(conic, 0, 2), 1);
            Due.is("conic(" + conic + ", 10)", desk.conic(conic, 10), Edges.UNKNOWN);
        }
    }

    private static void atFirst() {
        Due.sentence(T1, "at first a 1 and all else 0 of each");
        Due.sentence("Promise 1", "All as at first; no images.");
        ConicDesk desk = new ConicDesk();
        for (int conic = 0; conic < 6; conic++) {
            Due.numbers("at first", desk, conic, 1, 0, 0, 0, 0, 0);
        }
        int[] counts = {7, 57, 0, 6, 0, 0, 0, 0};
        for (int what = 0; what < 8; what++) {
            Due.is("at first, count(" + what + ")", desk.count(what), counts[what]);
        }
        Due.is("at first, fault(0)", desk.fault(0), 0);
        Due.is("at first, fault(1)", desk.fault(1), NONE);
        Due.is("at first, why(0)", desk.why(0), 0);
        Due.is("at first, why(1)", desk.why(1), 0);
        Due.is("at first, undo()", desk.undo(), NONE);
        Due.is("at first, marked(0)", desk.marked(0), NONE);
        for (int k = 0; k < 3; k++) {
            Due.fails("at first, again(" + k + ")", desk.again(k));
        }
        Due.is("at first, an empty text", desk.text(), 0);
        desk.set(0, 0, 50);
        Due.is("another new one has nothing of it", new ConicDesk().conic(0, 10), 1);
    }

    private static void primes() {
        Due.sentence(T1, "The PRIME p is one of 3, 5, 7, 11, 13, 17, 19, 23");
        for (int p = -30; p < 100; p++) {
            ConicDesk desk = new ConicDesk();
            boolean can = false;
            for (int prime : Edges.PRIMES) {
                can |= p == prime;
            }
            Due.is("prime(" + p + ")", desk.prime(p), can ? p == 7 ? 2 : 0 : 1);
            Due.is("the prime is", desk.count(0), can ? p : 7);
        }
        ConicDesk desk = new ConicDesk();
        int[] beyond = {Edges.LOWEST, Edges.LOWEST + 7, Edges.HIGHEST, 256 + 3, 256 + 23, (1 << 16) + 3, 27, 29, 31};
        for (int p : beyond) {
            Due.refused("prime(" + p + ")", desk, desk.prime(p), 1, 0);
            Due.is("the prime stays", desk.count(0), 7);
        }
    }

    private static void sevenAtFirst() {
        Due.sentence(T1, "(7 at first)");
        Due.is("the first prime", new ConicDesk().count(0), 7);
        Due.is("of a text without one", Edges.desk("").count(0), 7);
    }

    /** Of a CONIC with these numbers: the SORT, and what it comes of. */
    private static void sorted(int sort, int a, int b, int c, int f, int g, int h) {
        String told = a + " " + b + " " + c + " " + f + " " + g + " " + h;
        ConicDesk desk = Edges.desk("conic 2 " + told + ";");
        long e = 8L * a * b * c + 2L * f * g * h - 2L * a * f * f - 2L * b * g * g - 2L * c * h * h;
        Due.is("sort of " + told, desk.conic(2, 0), sort);
        Due.is("d of " + told, desk.conic(2, 3), 4 * a * b - h * h);
        Due.is("e of " + told, desk.conic(2, 4), e);
        Due.is("i of " + told, desk.conic(2, 5), 4 * b * c - f * f + 4 * a * c - g * g);
    }

    private static void sortOfWholeOnes() {
        Due.sentence(T1, "e not 0: d above 0: 0 (an ellipse), if e times the sum of a and b is below 0");
        // d is 3 at the least where it is above 0, and e -2 or 2 next to 0.
        sorted(0, 1, 1, 0, 1, 0, 1);
        sorted(0, -1, -1, 0, 1, 0, -1);
        sorted(0, 43, 57, -99, 0, 0, 99);
        sorted(0, 43, 57, 0, 1, 0, 99);
        sorted(0, 99, 99, -99, 0, 0, 0);
        sorted(0, -99, -99, 99, 0, 0, 0);
        sorted(0, 99, 99, -99, 99, 99, -99);
        sorted(0, -99, -99, 99, 99, 99, 99);
        Due.sentence(T1, "else 1 (none of its points is there)");
        sorted(1, 1, 1, 1, 1, 0, 1);
        sorted(1, -1, -1, -1, 1, 0, -1);
        sorted(1, 43, 57, 99, 0, 0, 99);
        sorted(1, 99, 99, 99, 0, 0, 0);
        sorted(1, -99, -99, -99, 0, 0, 0);
        sorted(1, 99, 99, 99, 99, 99, 99);
        Due.sentence(T1, "d 0: 2 (a parabola)");
        sorted(2, 1, 0, 0, 1, 0, 0);
        sorted(2, -1, 0, 0, 1, 0, 0);
        sorted(2, 0, 1, 0, 0, 1, 0);
        sorted(2, 0, -99, 99, 0, 99, 0);
        sorted(2, 49, 49, 0, 1, 0, 98);
        sorted(2, 49, 49, 99, 99, -99, 98);
        Due.sentence(T1, "d below 0: 3 (a hyperbola)");
        sorted(3, 1, 0, 0, 1, 0, 1);
        sorted(3, -1, 0, 0, 1, 0, 1);
        sorted(3, 0, 0, 1, 0, 0, 1);
        sorted(3, 0, 0, -1, 0, 0, 1);
        sorted(3, 49, 50, 1, 0, 0, 99);
        sorted(3, 49, 50, 0, 1, 0, 99);
        sorted(3, 99, -99, 99, 99, 99, 99);
        sorted(3, 0, 0, 99, -99, 99, 99);
    }

    private static void sortOfPointsAndCrossingLines() {
        Due.sentence(T1, "e 0: d above 0: 4 (a point)");
        sorted(4, 1, 1, 0, 0, 0, 1);
        sorted(4, -1, -1, 0, 0, 0, 1);
        sorted(4, 43, 57, 0, 0, 0, 99);
        sorted(4, 99, 99, 0, 0, 0, 0);
        sorted(4, 1, 1, 1, 1, -1, 1);
        Due.sentence(T1, "e 0: .. d below 0: 5 (lines that cross)");
        sorted(5, 0, 0, 0, 0, 0, 1);
        sorted(5, 0, 0, 0, 0, 0, -1);
        sorted(5, 49, 50, 0, 0, 0, 99);
        sorted(5, 99, -99, 0, 0, 0, 99);
        sorted(5, 1, -1, 0, 1, 1, 0);
    }

    private static void sortOfLinesSideBySide() {
        Due.sentence(T1, "d 0, of a, b, h any not 0: i below 0: 6 (lines side by side)");
        sorted(6, 1, 0, 0, 0, 1, 0);
        sorted(6, -1, 0, 0, 0, 1, 0);
        sorted(6, 0, 1, 0, 1, 0, 0);
        sorted(6, 0, -1, 0, -1, 0, 0);
        sorted(6, 1, 1, 0, 1, 1, 2);
        sorted(6, 1, 0, -1, 0, 0, 0);
        sorted(6, 99, 0, -99, 0, 99, 0);
        sorted(6, 0, 99, -99, 99, 0, 0);
        Due.sentence(T1, "i above 0: 7 (none is there)");
        sorted(7, 1, 0, 1, 0, 1, 0);
        sorted(7, -1, 0, -1, 0, 1, 0);
        sorted(7, 0, 1, 1, 1, 0, 0);
        sorted(7, 0, -1, -1, 1, 0, 0);
        sorted(7, 99, 0, 99, 0, 99, 0);
        Due.sentence(T1, "i 0: 8 (a line twice)");
        sorted(8, 1, 0, 0, 0, 0, 0);
        sorted(8, -1, 0, 0, 0, 0, 0);
        sorted(8, 0, 1, 0, 0, 0, 0);
        sorted(8, 0, -99, 0, 0, 0, 0);
        sorted(8, 1, 0, 1, 0, 2, 0);
        sorted(8, 0, 1, 1, -2, 0, 0);
        sorted(8, 1, 1, 1, 2, 2, 2);
        sorted(8, 49, 49, 49, -98, -98, 98);
    }

    private static void sortOfTheFarLine() {
        Due.sentence(T1, "a, b, h all 0: 9 (a line and the far one), if f or g is not 0");
        sorted(9, 0, 0, 0, 1, 0, 0);
        sorted(9, 0, 0, 0, -1, 0, 0);
        sorted(9, 0, 0, 0, 0, 1, 0);
        sorted(9, 0, 0, 0, 0, -1, 0);
        sorted(9, 0, 0, 99, 1, 0, 0);
        sorted(9, 0, 0, -99, 0, 99, 0);
        sorted(9, 0, 0, 1, 99, -99, 0);
        Due.sentence(T1, "else 10 (the far line twice)");
        sorted(10, 0, 0, 1, 0, 0, 0);
        sorted(10, 0, 0, -1, 0, 0, 0);
        sorted(10, 0, 0, 99, 0, 0, 0);
        sorted(10, 0, 0, -99, 0, 0, 0);
    }

    private static void moduloThePrime() {
        Due.sentence(T1, "OVER THE FIELD all numbers are modulo p, 0 to p - 1");
        for (int p : Edges.PRIMES) {
            ConicDesk desk = Edges.desk("prime " + p + ";conic 0 " + -p + " -1 0 " + (p - 1) + " " + p + " " + (p + 1)
                + ";conic 1 -99 99 1 " + (1 - p) + " " + (-p - 1) + " " + (2 * p - 1) + ";");
            int[] first = {0, p - 1, 0, p - 1, 0, 1};
            int[] second = {Math.floorMod(-99, p), 99 % p, 1, 1, p - 1, p - 1};
            for (int i = 0; i < 6; i++) {
                Due.is("modulo " + p + ", conic(0, " + (20 + i) + ")", desk.conic(0, 20 + i), first[i]);
                Due.is("modulo " + p + ", conic(1, " + (20 + i) + ")", desk.conic(1, 20 + i), second[i]);
            }
        }
    }

    private static void placed(ConicDesk desk, int number, int x, int y, int z) {
        String told = " of " + number;
        Due.is("x" + told, desk.place(number, 0), x);
        Due.is("y" + told, desk.place(number, 1), y);
        Due.is("z" + told, desk.place(number, 2), z);
        Due.is("number of (" + x + " : " + y + " : " + z + ")", desk.number(x, y, z), number);
    }

    private static void firstNotZeroIsOne() {
        Due.sentence(T1, "A POINT (x : y : z), not all 0, is told with the first one that is not 0 being 1");
        for (int p : Edges.PRIMES) {
            for (int times = 1; times < p; times++) {
                ConicDesk desk = Edges.desk("prime " + p + ";");
                Due.is("times " + times, desk.number(times, times * (p - 1), times * 2), p * (p - 1) + 2);
                Due.is("times " + times, desk.number(0, times, times * (p - 1)), p * p + p - 1);
                Due.is("times " + times, desk.number(0, 0, times), p * p + p);
                Due.is("times " + times + ", y 0", desk.number(times, 0, times * (p - 1)), p - 1);
                Due.is("all 0", desk.number(times * p, -times * p, 0), NONE);
            }
        }
    }

    private static void numbersOfThePlane() {
        Due.sentence(T1, "numbers: (1 : y : z): p y + z; (0 : 1 : z): p p + z; (0 : 0 : 1): p p + p");
        for (int p : Edges.PRIMES) {
            ConicDesk desk = Edges.desk("prime " + p + ";");
            placed(desk, 0, 1, 0, 0);
            placed(desk, p - 1, 1, 0, p - 1);
            placed(desk, p, 1, 1, 0);
            placed(desk, p * p - p, 1, p - 1, 0);
            placed(desk, p * p - 1, 1, p - 1, p - 1);
            placed(desk, p * p, 0, 1, 0);
            placed(desk, p * p + p - 1, 0, 1, p - 1);
            placed(desk, p * p + p, 0, 0, 1);
            for (int number : Edges.notOfPlane(p)) {
                Due.is("place(" + number + ", 0), p being " + p, desk.place(number, 0), NONE);
            }
        }
    }

    private static void voidOnes() {
        Due.sentence(T1, "A CONIC is VOID, if all its numbers are 0 there.");
        for (int p : Edges.PRIMES) {
            int most = 99 / p * p;
            for (int i = 0; i < 6; i++) {
                ConicDesk desk = Edges.desk("prime " + p + ";" + Edges.alone(i, most));
                Due.is(Edges.NUMBERS[i] + " " + most + ", kind", desk.conic(0, 1), 0);
                Due.is("rank", desk.conic(0, 2), 0);
                desk.set(0, i, -most);
                Due.is(Edges.NUMBERS[i] + " " + -most + ", kind", desk.conic(0, 1), 0);
                desk.set(0, i, 1 - most);
                Due.fails(Edges.NUMBERS[i] + " " + (1 - most) + ", void", desk.conic(0, 1) == 0);
                desk.set(0, i, p - 1);
                Due.fails(Edges.NUMBERS[i] + " " + (p - 1) + ", void", desk.conic(0, 2) == 0);
            }
            ConicDesk all = Edges.desk("prime " + p + ";conic 0 " + p + " " + -p + " 0 " + most + " " + -most + " " + p + ";");
            Due.is("all numbers", all.conic(0, 1), 0);
        }
    }

    /** Of a CONIC with these numbers: all that its KIND tells. */
    private static void kind(int p, int kind, String numbers) {
        ConicDesk desk = Edges.desk("prime " + p + ";conic 4 " + numbers + ";");
        String told = " of " + numbers + " modulo " + p;
        int[] points = {Edges.points(p), p + 1, 2 * p + 1, 1, p + 1};
        int[] lines = {Edges.points(p), 1, 2, 0, 0};
        Due.is("kind" + told, desk.conic(4, 1), kind);
        Due.is("rank" + told, desk.conic(4, 2), kind < 3 ? kind : kind - 1);
        Due.is("points" + told, desk.conic(4, 6), points[kind]);
        Due.is("lines" + told, desk.conic(4, 7), lines[kind]);
        Due.is("outside" + told, desk.conic(4, 8), kind == 4 ? p * (p + 1) / 2 : NONE);
        Due.is("inside" + told, desk.conic(4, 9), kind == 4 ? p * (p - 1) / 2 : NONE);
        Due.is("counted" + told, desk.count(6), kind == 4 ? 1 : 0);
    }

    private static void rankAndKind() {
        Due.sentence(T1, "KIND: 0 VOID; RANK 1: 1 (a LINE twice); .. RANK 3: 4 (proper)");
        for (int p : Edges.PRIMES) {
            kind(p, 0, p + " 0 " + -p + " 0 0 0");
            kind(p, 1, "1 0 0 0 0 0");
            kind(p, 1, "0 1 0 0 0 0");
            kind(p, 1, "0 0 " + -Edges.residue(p, false) + " 0 0 0");
            kind(p, 1, "1 1 1 2 2 2");
            kind(p, 1, "1 1 1 -2 -2 2");
            kind(p, 4, "1 1 1 0 0 0");
            kind(p, 4, "0 1 0 0 -1 0");
            kind(p, 4, "0 0 0 1 1 1");
            kind(p, 4, "0 0 1 0 0 -1");
        }
    }

    private static void twoLinesOrOnePoint() {
        Due.sentence(T1, "RANK 2: 2, if LINES lie on it (two), 3 if none does (one POINT)");
        for (int p : Edges.PRIMES) {
            int no = Edges.residue(p, false);
            int yes = Edges.residue(p, true);
            kind(p, 2, "0 0 0 0 0 1");
            kind(p, 2, "0 0 0 1 0 0");
            kind(p, 2, "0 0 0 0 1 0");
            kind(p, 2, "0 0 0 1 -1 0");
            kind(p, 2, "1 " + -yes + " 0 0 0 0");
            kind(p, 2, "0 1 " + -yes + " 0 0 0");
            kind(p, 2, "1 0 " + -yes + " 0 0 0");
            kind(p, 2, "1 0 0 0 1 1");
            kind(p, 3, "1 " + -no + " 0 0 0 0");
            kind(p, 3, "0 1 " + -no + " 0 0 0");
            kind(p, 3, "1 0 " + -no + " 0 0 0");
            // (x + z)(x + z) less no times (y + z)(y + z)
            kind(p, 3, "1 " + -no + " " + (1 - no) + " " + -2 * no + " 2 0");
        }
    }

    private static void properByTheLeastOfE() {
        Due.sentence(T1, "Its MATRIX: rows (2a, h, g), (h, 2b, f), (g, f, 2c); RANK of that.");
        for (int p : Edges.PRIMES) {
            // e is 8 c: where c is p it is 0 here, and over fractions it is not.
            for (int c = 1 - p; c <= p; c++) {
                if (c != 0) {
                    ConicDesk desk = Edges.desk("prime " + p + ";conic 0 1 1 " + c + " 0 0 0;");
                    Due.is("rank, c " + c + " modulo " + p, desk.conic(0, 2), c == p ? 2 : 3);
                    Due.is("sort, c " + c, desk.conic(0, 0), c < 0 ? 0 : 1);
                }
            }
        }
    }

    private static void callsUpToTheLast() {
        Due.sentence("What it is", "An object is used for at most 512 calls after it has been made");
        ConicDesk desk = new ConicDesk();
        for (int call = 1; call <= 510; call++) {
            Due.is("call " + call, desk.set(0, 1, call % 2 == 1 ? 5 : -5), 0);
        }
        Due.is("call 511", desk.undo(), 7);
        Due.is("call 512", desk.conic(0, 11), 5);
    }
}
