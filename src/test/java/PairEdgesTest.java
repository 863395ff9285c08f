/** The boundaries that Promises 27 to 32 name: PENCILS and FAMILIES, and what there is none of. */
public final class PairEdgesTest {
    private static final int NONE = Edges.NONE;
    private static final int LOWEST = Edges.LOWEST;
    private static final int HIGHEST = Edges.HIGHEST;
    private static final int[] FIVE = {0, 49, 56, 8, 17};

    public static void main(String[] args) {
        baseFromNoneToALine();
        baseOfEachNumber();
        fallenFromNoneToAll();
        touchingOnes();
        touchingOfKind4Alone();
        membersFromFirstToLast();
        pencilOfAnotherWhat();
        noPencilOfVoid();
        noPencilOfTimes();
        noPencilOfNoConic();
        memberNumbers();
        memberNone();
        passingFirst();
        passingNone();
        onlyOfFreeOne();
        onlyOfAnotherI();
        freedByOne();
        freedNone();
        usefulOnes();
        Due.end("PairEdgesTest");
    }

    private static ConicDesk two(int p, int[] one, int[] other) {
        return Edges.desk("prime " + p + ";" + Edges.conic(0, one) + Edges.conic(5, other));
    }

    private static int[] xx(int b, int c) {
        return new int[] {1, b, c, 0, 0, 0};
    }

    /** yy - zx and what else stands before the products. */
    private static int[] parabola(int a, int b, int h) {
        return new int[] {a, b, 0, 0, -1, h};
    }

    // ---- Promise 27

    private static void baseFromNoneToALine() {
        Due.sentence("Promise 27", "Of the PENCIL of two, what 0: BASE, how many");
        for (int p : Edges.PRIMES) {
            int no = Edges.residue(p, false);
            Due.is("none", two(p, xx(-no, 0), new int[] {0, 0, 1, 0, 0, 0}).pencil(0, 5, 0), 0);
            Due.is("one", two(p, xx(0, 0), new int[] {0, 1, 0, 0, 0, 0}).pencil(0, 5, 0), 1);
            Due.is("two", two(p, parabola(0, 1, 0), parabola(0, 2, 0)).pencil(0, 5, 0), 2);
            Due.is("three", two(p, new int[] {0, 0, 0, 1, 0, 0}, new int[] {0, 0, 0, 0, 1, 1}).pencil(0, 5, 0), 3);
            Due.is("four", two(p, xx(-1, 0), xx(0, -1)).pencil(0, 5, 0), 4);
            Due.is("a line", two(p, xx(0, 0), new int[] {0, 0, 0, 0, 0, 1}).pencil(0, 5, 0), p + 1);
            Due.is("a line and a point", two(p, new int[] {0, 0, 0, 0, 1, 0}, new int[] {0, 0, 0, 0, 0, 1}).pencil(0, 5, 0), p + 2);
        }
    }

    private static void baseOfEachNumber() {
        Due.sentence("Promise 27", "100 + k: the k-th POINT of BASE, by numbers");
        for (int p : Edges.PRIMES) {
            int[][][] pairs = {{xx(-Edges.residue(p, false), 0), {0, 0, 1, 0, 0, 0}}, {xx(-1, 0), xx(0, -1)},
                {parabola(0, 1, 0), parabola(0, 2, 0)}, {{0, 0, 0, 0, 1, 0}, {0, 0, 0, 0, 0, 1}}, {xx(0, 0), {0, 1, 0, 0, 0, 0}}};
            for (int[][] pair : pairs) {
                ConicDesk desk = two(p, pair[0], pair[1]);
                int k = 0;
                for (int point = 0; point < Edges.points(p); point++) {
                    if (Edges.value(p, pair[0], point) == 0 && Edges.value(p, pair[1], point) == 0) {
                        Due.is("pencil(0, 5, " + (100 + k) + "), p being " + p, desk.pencil(0, 5, 100 + k), point);
                        Due.is("the other way", desk.pencil(5, 0, 100 + k), point);
                        k++;
                    }
                }
                Due.is("how many", desk.pencil(0, 5, 0), k);
                Due.is("no more", desk.pencil(0, 5, 100 + k), NONE);
                Due.is("none of 99", desk.pencil(0, 5, 99), NONE);
                Due.is("none of 999", desk.pencil(0, 5, 999), NONE);
            }
        }
    }

    private static void fallenFromNoneToAll() {
        Due.sentence("Promise 27", "1: FALLEN, how many");
        for (int p : Edges.PRIMES) {
            Due.is("all", two(p, xx(0, 0), new int[] {0, 1, 0, 0, 0, 0}).pencil(0, 5, 1), p + 1);
            Due.is("three", two(p, xx(-1, 0), xx(0, -1)).pencil(0, 5, 1), 3);
            Due.is("two, the first and the last", two(p, xx(-Edges.residue(p, false), 0), new int[] {0, 0, 1, 0, 0, 0})
                .pencil(0, 5, 1), 2);
            // t (yy - zx) + xx: only t = 0 is fallen.
            Due.is("one, the first", two(p, parabola(0, 1, 0), xx(0, 0)).pencil(0, 5, 1), 1);
            Due.is("one, the last", two(p, xx(0, 0), parabola(0, 1, 0)).pencil(0, 5, 1), 1);
            Due.is("none", noneFallen(p), 0);
        }
    }

    /** FALLEN of a PENCIL that is looked for: of yy - zx, and b yy + n zz + xy, where no MEMBER's e is 0. */
    private static int noneFallen(int p) {
        for (int n = 1; n < p; n++) {
            for (int b = 0; b < p; b++) {
                boolean root = false;
                for (int t = 0; t <= p; t++) {
                    // MEMBER t has t + b, n, -t, 1 for b, c, g, h; MEMBER p is of KIND 4.
                    root |= t < p && Math.floorMod(-2 * (t + b) * t * t - 2 * n, p) == 0;
                }
                if (!root) {
                    return two(p, parabola(0, 1, 0), new int[] {0, b, n, 0, 0, 1}).pencil(0, 5, 1);
                }
            }
        }
        return NONE;
    }

    private static void touchingOnes() {
        Due.sentence("Promise 27", "2: POINTS of BASE at which both have one TANGENT");
        for (int p : Edges.PRIMES) {
            Due.is("both of two", two(p, parabola(0, 1, 0), parabola(0, 2, 0)).pencil(0, 5, 2), 2);
            Due.is("one alone", two(p, parabola(0, 1, 0), parabola(1, 1, 0)).pencil(0, 5, 2), 1);
            ConicDesk ofTwo = two(p, parabola(0, 1, 0), parabola(0, 1, 1));
            Due.is("one of two", ofTwo.pencil(0, 5, 2), 1);
            Due.is("the other way", ofTwo.pencil(5, 0, 2), 1);
            Due.is("base", ofTwo.pencil(0, 5, 0), 2);
            if (p > 3) {
                ConicDesk four = two(p, new int[] {2, -1, -1, 0, 0, 0}, new int[] {3, -2, -1, 0, 0, 0});
                Due.is("none of four", four.pencil(0, 5, 2), 0);
                Due.is("base", four.pencil(0, 5, 0), 4);
            }
        }
    }

    private static void touchingOfKind4Alone() {
        Due.sentence("Promise 27", "(both of KIND 4; else NONE)");
        for (int p : Edges.PRIMES) {
            int[][] kinds = Edges.kinds(p);
            for (int one = 1; one < 5; one++) {
                for (int other = 1; other < 5; other++) {
                    ConicDesk desk = two(p, kinds[one], kinds[other]);
                    boolean is = desk.pencil(0, 5, 0) != NONE;
                    Due.is("there is a pencil", is ? 1 : 0, one == other ? 0 : 1);
                    Due.is("of kinds " + one + " and " + other, desk.pencil(0, 5, 2), NONE);
                }
            }
            Due.fails("of kinds 4 and 4", two(p, kinds[4], new int[] {1, 1, 1, 0, 0, 0}).pencil(0, 5, 2) == NONE);
        }
    }

    private static void membersFromFirstToLast() {
        Due.sentence("Promise 27", "1000 + t: KIND of MEMBER t, 2000 + t: POINTS ON it, 3000 + t: LINES that lie on it");
        for (int p : Edges.PRIMES) {
            ConicDesk desk = two(p, xx(-1, 0), xx(0, -1));
            for (int t = 0; t <= p; t++) {
                boolean fallen = t == 0 || t == p - 1 || t == p;
                Due.is("kind of " + t + ", p being " + p, desk.pencil(0, 5, 1000 + t), fallen ? 2 : 4);
                Due.is("points on " + t + ", p being " + p, desk.pencil(0, 5, 2000 + t), fallen ? 2 * p + 1 : p + 1);
                Due.is("lines on " + t + ", p being " + p, desk.pencil(0, 5, 3000 + t), fallen ? 2 : 0);
            }
            for (int what = 1000; what < 4000; what += 1000) {
                Due.is("no member p + 1", desk.pencil(0, 5, what + p + 1), NONE);
                Due.is("none of -1", desk.pencil(0, 5, what - 1), NONE);
                Due.is("none of 999", desk.pencil(0, 5, what + 999), NONE);
            }
            Due.is("member p, asked first", two(p, xx(-1, 0), xx(0, -1)).pencil(0, 5, 2000 + p), 2 * p + 1);
            ConicDesk ends = two(p, xx(-Edges.residue(p, false), 0), new int[] {0, 0, 1, 0, 0, 0});
            Due.is("member 0 is the other one", ends.pencil(0, 5, 1000), 1);
            Due.is("its points", ends.pencil(0, 5, 2000), p + 1);
            Due.is("its line", ends.pencil(0, 5, 3000), 1);
            Due.is("member p is the first one", ends.pencil(0, 5, 1000 + p), 3);
            Due.is("its point", ends.pencil(0, 5, 2000 + p), 1);
            Due.is("its lines", ends.pencil(0, 5, 3000 + p), 0);
            Due.is("the other way, member p", ends.pencil(5, 0, 1000 + p), 1);
            Due.is("the other way, member 0", ends.pencil(5, 0, 1000), 3);
        }
    }

    private static void pencilOfAnotherWhat() {
        Due.sentence("Promise 27", "NONE: there is no PENCIL, none such.");
        ConicDesk desk = two(7, xx(-1, 0), xx(0, -1));
        int[] whats = {-1, 3, 4, 50, 98, 99, 104, 105, 999, 1008, 1999, 2008, 2999, 3008, 3999, 4000, 4001, 5000, LOWEST,
            LOWEST + 1, HIGHEST, HIGHEST - 1, Edges.UNKNOWN, -100, -1000, 1 << 16};
        for (int what : whats) {
            Due.is("pencil(0, 5, " + what + ")", desk.pencil(0, 5, what), NONE);
        }
        for (int what : new int[] {0, 1, 100, 103, 1000, 1007, 2000, 2007, 3000, 3007}) {
            Due.fails("pencil(0, 5, " + what + ") is none", desk.pencil(0, 5, what) == NONE);
        }
    }

    private static final int[] WHATS = {0, 1, 2, 100, 1000, 1001, 2000, 2001, 3000, 3001};

    private static void noPencil(String told, ConicDesk desk, int one, int other) {
        for (int what : WHATS) {
            Due.is(told + ": pencil(" + one + ", " + other + ", " + what + ")", desk.pencil(one, other, what), NONE);
        }
        for (int t = -1; t < 3; t++) {
            Due.is(told + ": member " + t, desk.member(one, other, t, 0), NONE);
        }
        Due.is(told + ": passing", desk.passing(one, other, 0), NONE);
    }

    private static void aPencil(String told, ConicDesk desk, int one, int other) {
        for (int what : new int[] {0, 1, 1000, 2001, 3000}) {
            Due.fails(told + ": pencil(" + one + ", " + other + ", " + what + ") is none", desk.pencil(one, other, what) == NONE);
        }
        Due.fails(told + ": member is none", desk.member(one, other, 0, 0) == NONE);
        Due.fails(told + ": passing is none", desk.passing(one, other, 0) == NONE);
    }

    private static void noPencilOfVoid() {
        Due.sentence("Terms 1", "PENCIL of two CONICS A, B, neither VOID");
        for (int p : Edges.PRIMES) {
            ConicDesk desk = two(p, new int[] {p, -p, 0, 0, 0, p}, xx(1, 1));
            noPencil("the first is void", desk, 0, 5);
            noPencil("the other is void", desk, 5, 0);
            noPencil("both are", desk, 0, 0);
            desk.set(0, 5, p - 1);
            aPencil("by one number none is", desk, 0, 5);
            aPencil("by one number none is", desk, 5, 0);
        }
    }

    private static void noPencilOfTimes() {
        Due.sentence("Terms 1", "unlike ones (not one the other times a number)");
        for (int p : Edges.PRIMES) {
            int[] one = {1, 2, 0, -1, 1, 3};
            for (int times = 1; times < p; times++) {
                int[] other = new int[6];
                for (int i = 0; i < 6; i++) {
                    other[i] = (times * one[i]) % p;
                }
                ConicDesk desk = two(p, one, other);
                noPencil("times " + times + ", p being " + p, desk, 0, 5);
                noPencil("times " + times + ", p being " + p, desk, 5, 0);
            }
            for (int i = 0; i < 6; i++) {
                int[] other = one.clone();
                other[i]++;
                aPencil("number " + i + " is another one, p being " + p, two(p, one, other), 0, 5);
            }
            // Of one number each: all pairs of places are told apart.
            for (int i = 0; i < 6; i++) {
                for (int j = 0; j < 6; j++) {
                    int[] first = new int[6];
                    int[] second = new int[6];
                    first[i] = 1;
                    second[j] = 2;
                    if (i == j) {
                        noPencil("alone at " + i, two(p, first, second), 0, 5);
                    } else {
                        aPencil("alone at " + i + " and " + j, two(p, first, second), 0, 5);
                    }
                }
            }
        }
        ConicDesk one = Edges.desk("conic 3 1 2 3 4 5 6;");
        for (int conic = 0; conic < 6; conic++) {
            noPencil("one with itself", one, conic, conic);
        }
        aPencil("unlike ones", one, 3, 5);
    }

    private static void noPencilOfNoConic() {
        Due.sentence("Promise 27", "NONE: there is no PENCIL");
        ConicDesk desk = two(7, xx(-1, 0), xx(0, -1));
        for (int no : Edges.NOT_OF_SIX) {
            aPencil("the ends", desk, 0, 5);
            noPencil("no such first one", desk, no, 5);
            noPencil("no such other one", desk, 0, no);
        }
        noPencil("neither", desk, -1, 6);
        noPencil("neither", new ConicDesk(), -1, 6);
    }

    // ---- Promises 28 and 29

    private static void memberNumbers() {
        Due.sentence("Promise 28", "Number i (0 to 5), modulo p, of MEMBER t of the PENCIL of two.");
        for (int p : Edges.PRIMES) {
            int[] one = {99, -99, 50, -1, p, 2};
            int[] other = {-1, 2, -98, 97, 1, -p};
            for (int t = 0; t <= p; t++) {
                ConicDesk desk = two(p, one, other);
                for (int i = 0; i < 6; i++) {
                    int due = Math.floorMod(t == p ? one[i] : t * one[i] + other[i], p);
                    Due.is("member(0, 5, " + t + ", " + i + "), p being " + p, desk.member(0, 5, t, i), due);
                    int back = Math.floorMod(t == p ? other[i] : t * other[i] + one[i], p);
                    Due.is("member(5, 0, " + t + ", " + i + "), p being " + p, desk.member(5, 0, t, i), back);
                }
            }
        }
    }

    private static void memberNone() {
        Due.sentence("Promise 28", "NONE: likewise.");
        for (int p : Edges.PRIMES) {
            ConicDesk desk = two(p, xx(-1, 0), xx(0, -1));
            for (int t : new int[] {-1, p + 1, p + 2, LOWEST, HIGHEST, 256, 1 << 16}) {
                Due.is("member " + t, desk.member(0, 5, t, 0), NONE);
                Due.is("member " + t, desk.member(0, 5, t, 5), NONE);
            }
            for (int i : Edges.NOT_OF_SIX) {
                Due.is("number " + i, desk.member(0, 5, 0, i), NONE);
                Due.is("number " + i, desk.member(0, 5, p, i), NONE);
            }
            Due.is("the first member's first", desk.member(0, 5, 0, 0), 1);
            Due.is("the last member's last", desk.member(0, 5, p, 5), 0);
        }
    }

    private static void passingFirst() {
        Due.sentence("Promise 29", "The first MEMBER of the PENCIL of two that has a POINT.");
        for (int p : Edges.PRIMES) {
            int[] one = xx(-1, 0);
            int[] other = {0, 1, 2, 0, 1, 0};
            boolean[] met = new boolean[p + 1];
            ConicDesk desk = two(p, one, other);
            for (int point = 0; point < Edges.points(p); point++) {
                if (point % 300 == 299) {
                    desk = two(p, one, other);
                }
                int due = p;
                for (int t = p - 1; t >= 0; t--) {
                    due = (t * Edges.value(p, one, point) + Edges.value(p, other, point)) % p == 0 ? t : due;
                }
                Due.is("passing(0, 5, " + point + "), p being " + p, desk.passing(0, 5, point), due);
                met[due] = true;
            }
            Due.holds("the first member is met, and the last", met[0] && met[p]);
            ConicDesk four = two(p, xx(-1, 0), xx(0, -1));
            for (int k = 0; k < 4; k++) {
                Due.is("a point of BASE: the first", four.passing(0, 5, four.pencil(0, 5, 100 + k)), 0);
            }
            Due.is("the last one alone", four.passing(0, 5, p), p);
        }
    }

    private static void passingNone() {
        Due.sentence("Promise 29", "NONE: none, none such.");
        for (int p : Edges.PRIMES) {
            ConicDesk desk = two(p, xx(-1, 0), xx(0, -1));
            for (int point : Edges.notOfPlane(p)) {
                Due.is("passing(0, 5, " + point + ")", desk.passing(0, 5, point), NONE);
            }
            Due.fails("of the first point", desk.passing(0, 5, 0) == NONE);
            Due.fails("of the last point", desk.passing(0, 5, p * p + p) == NONE);
        }
    }

    // ---- Promises 30 to 32

    private static void onlyOfFreeOne() {
        Due.sentence("Promise 30", "Number i (0 to 5) of the one CONIC of the FAMILY, as by THROUGH. NONE: FREE is not 1");
        ConicDesk desk = new ConicDesk();
        int[] points = {0, 49, 56, 8, 17, 7, 9, 20};
        int[] due = {0, 0, 0, 1, 3, 3};
        for (int marks = 0; marks <= 8; marks++) {
            Due.is("FREE of " + marks, desk.count(3), Math.max(0, 6 - marks));
            for (int i = 0; i < 6; i++) {
                Due.is("only(" + i + ") of " + marks, desk.only(i), marks == 5 ? due[i] : NONE);
            }
            if (marks < 8) {
                Due.is("mark", desk.mark(points[marks], false), 0);
            }
        }
        ConicDesk eight = Edges.desk(Edges.marks(7, 0, 8, 18, 23, 30, 39, 43, 56));
        int[] parabola = {0, 1, 0, 0, 6, 0};
        for (int i = 0; i < 6; i++) {
            Due.is("only(" + i + ") of eight on one", eight.only(i), parabola[i]);
        }
        ConicDesk line = Edges.desk(Edges.marks(7, 0, 1, 2, 3, 4, 5, 6, 49));
        Due.is("of eight, seven in a line: FREE is 2", line.only(0), NONE);
        ConicDesk lines = Edges.desk(Edges.marks(7, 0, 1, 2, 3, 4, 5, 49, 51));
        Due.is("FREE", lines.count(3), 1);
        // y = 0 and x = 0.
        for (int i = 0; i < 6; i++) {
            Due.is("only(" + i + ") of two lines", lines.only(i), i == 5 ? 1 : 0);
        }
    }

    private static void onlyOfAnotherI() {
        Due.sentence("Promise 30", "NONE: .. another i.");
        ConicDesk desk = Edges.desk(Edges.marks(7, FIVE));
        for (int i : Edges.NOT_OF_SIX) {
            Due.is("only(" + i + ")", desk.only(i), NONE);
            Due.is("only(" + i + ") of a new desk", new ConicDesk().only(i), NONE);
        }
        Due.is("only(0)", desk.only(0), 0);
        Due.is("only(5)", desk.only(5), 3);
    }

    private static void freedByOne() {
        Due.sentence("Promise 31", "FREE, were a POINT MARKED, too.");
        for (int p : Edges.PRIMES) {
            ConicDesk none = Edges.desk("prime " + p + ";");
            Due.is("of none, the first point", none.freed(0), 5);
            Due.is("of none, the last point", none.freed(p * p + p), 5);
            ConicDesk line = Edges.desk(Edges.marks(p, p * p, p * p + p, p * p + 1));
            Due.is("in line with three", line.freed(p * p + 2), 3);
            Due.is("off it", line.freed(0), 2);
            Due.is("off it", line.freed(p * p - 1), 2);
        }
        ConicDesk five = Edges.desk(Edges.marks(7, FIVE));
        int[] conic = {0, 0, 0, 1, 3, 3};
        for (int point = 0; point < 57; point++) {
            boolean marked = point == 0 || point == 49 || point == 56 || point == 8 || point == 17;
            int due = marked ? NONE : Edges.value(7, conic, point) == 0 ? 1 : 0;
            Due.is("freed(" + point + ") of five", five.freed(point), due);
        }
        Due.is("nothing is marked", five.count(2), 5);
        ConicDesk six = Edges.desk(Edges.marks(7, 0, 49, 56, 8, 17, 7));
        Due.is("FREE 0 stays", six.freed(30), 0);
        ConicDesk eight = Edges.desk(Edges.marks(7, 0, 1, 2, 3, 4, 5, 6, 49));
        Due.is("of eight: a ninth one would lessen", eight.freed(8), 1);
        ConicDesk whole = Edges.desk(Edges.marks(7, 0, 8, 18, 23, 30, 39, 43, 56));
        Due.is("of eight, all that it has: a ninth one", whole.freed(1), 0);
    }

    private static void freedNone() {
        Due.sentence("Promise 31", "NONE: it is, there is none such.");
        for (int p : Edges.PRIMES) {
            ConicDesk desk = Edges.desk("prime " + p + ";");
            for (int point : new int[] {0, p * p + p, p * p, p}) {
                Due.fails("freed(" + point + ") is none", desk.freed(point) == NONE);
                desk.mark(point, false);
                Due.is("freed(" + point + "), it being marked", desk.freed(point), NONE);
            }
            for (int point : Edges.notOfPlane(p)) {
                Due.is("freed(" + point + ")", desk.freed(point), NONE);
            }
            desk.mark(0, true);
            Due.fails("freed(0) is none, it being unmarked", desk.freed(0) == NONE);
        }
    }

    private static void usefulOnes() {
        Due.sentence("Promise 32", "How many POINTS there are by which FREE would be less.");
        for (int p : Edges.PRIMES) {
            ConicDesk desk = Edges.desk("prime " + p + ";");
            int all = Edges.points(p);
            // (0 : 1 : 0), (0 : 0 : 1), (0 : 1 : 1): a LINE is told whole; then one off it; then one more, off all.
            int[] points = {p * p, p * p + p, p * p + 1, 0, p + 2};
            int[] due = {all, all - 1, all - 2, all - p - 1, all - p - 2, all - 2 * p - 1};
            for (int k = 0; k <= 5; k++) {
                Due.is("useful of " + k + ", p being " + p, desk.useful(), due[k]);
                if (k < 5) {
                    Due.is("mark", desk.mark(points[k], false), 0);
                }
            }
            Due.is("FREE", desk.count(3), 1);
            Due.is("one off the two lines", desk.mark(p + 1, false), 0);
            Due.is("FREE", desk.count(3), 0);
            Due.is("useful of FREE 0", desk.useful(), 0);
        }
        ConicDesk eight = Edges.desk(Edges.marks(7, 0, 1, 2, 3, 4, 5, 6, 49));
        Due.is("eight being marked: all but the line and the one", eight.useful(), 57 - 8 - 1);
    }
}
