import java.util.Arrays;

/** What the document's sentences tell that name no boundary: its Terms, its acts, what there is, two conics. */
public final class SentencesTest {
    private static final int NONE = Edges.NONE;
    private static final int UNKNOWN = Edges.UNKNOWN;
    private static final String T1 = "Terms 1";
    private static final String T2 = "Terms 2";
    /** Calls of one desk before the next one is made. */
    private static final int ENOUGH = 200;
    /** CONICS of KIND 4 for every PRIME, each with numbers of its own. */
    private static final int[][] PROPER = {{0, 1, 0, 0, -1, 0}, {1, 1, -1, 0, 0, 0}, {0, 0, 0, 1, 1, 1}, {0, 0, 1, 0, 0, -1}, {-1, 4, 2, -2, 2, 1}};

    public static void main(String[] args) {
        sixNumbers();
        overFractions();
        dAndEAndI();
        everySort();
        lines();
        tangentAtAPoint();
        dualHasTheTangents();
        dualNumbers();
        onOrOutsideOrInside();
        members();
        base();
        fallen();
        answersOfActs();
        acts();
        theConstants();
        kindsAndRanks();
        placesOfLines();
        polarsAndPoles();
        Due.end("SentencesTest");
    }

    /** Numbers that look like any, the same ones in each run: from -most to most. */
    private static int[] row(int seed, int most) {
        int[] numbers = new int[6];
        long state = 1000003L * seed + 12345;
        for (int i = 0; i < 6; i++) {
            state = state * 6364136223846793005L + 1442695040888963407L;
            numbers[i] = (int) ((state >>> 33) % (2 * most + 1)) - most;
        }
        numbers[seed % 6] = numbers[seed % 6] == 0 ? most : numbers[seed % 6];
        return numbers;
    }

    private static ConicDesk desk(int p, int[] zero, int[] one) {
        return Edges.desk("prime " + p + ";" + Edges.conic(0, zero) + Edges.conic(1, one));
    }

    private static int proper(int p, int[] n) {
        long e = 8L * n[0] * n[1] * n[2] + 2L * n[3] * n[4] * n[5] - 2L * n[0] * n[3] * n[3] - 2L * n[1] * n[4] * n[4] - 2L * n[2] * n[5] * n[5];
        return (int) Math.floorMod(e, (long) p);
    }

    private static int polarOf(int p, int[] n, int point) {
        int[] t = Edges.triple(p, point);
        return numbered(p, 2 * n[0] * t[0] + n[5] * t[1] + n[4] * t[2], n[5] * t[0] + 2 * n[1] * t[1] + n[3] * t[2],
            n[4] * t[0] + n[3] * t[1] + 2 * n[2] * t[2]);
    }

    /** The POINT or LINE of which u, v, w are the numbers, looked for among all. */
    private static int numbered(int p, int u, int v, int w) {
        for (int number = 0; number < Edges.points(p); number++) {
            int[] t = Edges.triple(p, number);
            boolean times = Math.floorMod(u * t[1] - v * t[0], p) == 0 && Math.floorMod(v * t[2] - w * t[1], p) == 0
                && Math.floorMod(w * t[0] - u * t[2], p) == 0;
            if (times && (Math.floorMod(u, p) != 0 || Math.floorMod(v, p) != 0 || Math.floorMod(w, p) != 0)) {
                return number;
            }
        }
        return NONE;
    }

    // ---- Terms 1: over fractions

    private static void sixNumbers() {
        Due.sentence(T1, "A CONIC is six whole numbers a b c f g h, .. for a xx + b yy + c zz + f yz + g zx + h xy.");
        for (int p : Edges.PRIMES) {
            for (int seed = 0; seed < 8; seed++) {
                // Each of the six products alone, then two CONICS with all of them.
                int[] n = seed < 6 ? new int[6] : row(seed, 99);
                if (seed < 6) {
                    n[seed] = 2;
                }
                ConicDesk desk = null;
                for (int point = 0; point < Edges.points(p); point++) {
                    if (point % ENOUGH == 0) {
                        desk = desk(p, row(1, 9), n);
                    }
                    boolean on = Edges.value(p, n, point) == 0;
                    Due.is("lies(1, " + point + ") of " + Arrays.toString(n) + ", p " + p, desk.lies(1, point) == 0 ? 1 : 0, on ? 1 : 0);
                }
            }
        }
    }

    private static void overFractions() {
        Due.sentence(T1, "OVER FRACTIONS (z being 1 for what is not far)");
        for (int seed = 0; seed < 60; seed++) {
            int[] n = row(seed, seed % 4 == 0 ? 99 : 2);
            ConicDesk seven = desk(7, n, n);
            int[] due = {seven.conic(0, 0), seven.conic(0, 3), seven.conic(0, 4), seven.conic(0, 5)};
            for (int p : Edges.PRIMES) {
                ConicDesk desk = desk(p, n, n);
                for (int k = 0; k < 4; k++) {
                    Due.is("no PRIME changes it, p " + p, desk.conic(0, k == 0 ? 0 : k + 2), due[k]);
                }
            }
        }
        // What is not far is (x, y, 1): x and y change places, and so does all but z; each SORT stays so.
        for (int seed = 0; seed < 60; seed++) {
            ConicDesk desk = desk(7, row(seed, 2), row(seed, 2));
            int sort = desk.conic(0, 0);
            desk.twist(0, 0);
            Due.is("y and x change places", desk.conic(0, 0), sort);
            desk.twist(0, 2);
            Due.is("x is x and y together", desk.conic(0, 0), sort);
            Due.is("of the numbers times -2", desk.sum(1, 1, -2, 1, 0), 0);
            Due.is("of the numbers times -2", desk.conic(1, 0), sort);
        }
    }

    private static void dAndEAndI() {
        Due.sentence(T1, "d = 4 a b - h h; e = 8 a b c + 2 f g h - 2 a f f - 2 b g g - 2 c h h; i = 4 b c - f f and 4 a c - g g together.");
        for (int seed = 0; seed < 400; seed++) {
            int[] n = row(seed, seed % 3 == 0 ? 99 : seed % 3 == 1 ? 10 : 1);
            ConicDesk desk = desk(7, n, n);
            int a = n[0], b = n[1], c = n[2], f = n[3], g = n[4], h = n[5];
            String of = " of " + Arrays.toString(n);
            Due.is("d" + of, desk.conic(1, 3), 4 * a * b - h * h);
            Due.is("e" + of, desk.conic(1, 4), 8 * a * b * c + 2 * f * g * h - 2 * a * f * f - 2 * b * g * g - 2 * c * h * h);
            Due.is("i" + of, desk.conic(1, 5), (4 * b * c - f * f) + (4 * a * c - g * g));
        }
    }

    /** All CONICS of numbers -1 to 1, six at a time. */
    private static void everySort() {
        Due.sentence(T1, "SORT: e not 0: .. e 0: d above 0: 4 (a point); d below 0: 5 (lines that cross);");
        StringBuilder text = new StringBuilder();
        int[][] six = new int[6][];
        int held = 0;
        int[] found = new int[11];
        for (int all = 0; all < 729; all++) {
            int[] n = new int[6];
            int rest = all;
            boolean zero = true;
            for (int i = 0; i < 6; i++) {
                n[i] = rest % 3 - 1;
                rest /= 3;
                zero &= n[i] == 0;
            }
            if (!zero) {
                text.append(Edges.conic(held, n));
                six[held++] = n;
            }
            if (held == 6 || all == 728) {
                ConicDesk desk = Edges.desk(text.toString());
                for (int k = 0; k < held; k++) {
                    int due = sortOf(six[k]);
                    found[due]++;
                    Due.is("sort of " + Arrays.toString(six[k]), desk.conic(k, 0), due);
                }
                text.setLength(0);
                held = 0;
            }
        }
        for (int sort = 0; sort < 11; sort++) {
            Due.holds("there are some of sort " + sort, found[sort] > 0);
        }
    }

    private static int sortOf(int[] n) {
        int a = n[0], b = n[1], c = n[2], f = n[3], g = n[4], h = n[5];
        int d = 4 * a * b - h * h;
        int e = 8 * a * b * c + 2 * f * g * h - 2 * a * f * f - 2 * b * g * g - 2 * c * h * h;
        int i = 4 * b * c - f * f + 4 * a * c - g * g;
        if (e != 0) {
            return d > 0 ? (e * (a + b) < 0 ? 0 : 1) : d == 0 ? 2 : 3;
        }
        if (d != 0) {
            return d > 0 ? 4 : 5;
        }
        if (a == 0 && b == 0 && h == 0) {
            return f == 0 && g == 0 ? 10 : 9;
        }
        return i < 0 ? 6 : i > 0 ? 7 : 8;
    }

    // ---- Terms 1: over the field

    private static void lines() {
        Due.sentence(T1, "A LINE (u : v : w) is u x + v y + w z = 0; numbers likewise.");
        for (int p : Edges.PRIMES) {
            int[] lines = {0, 1, p - 1, p, p + 1, p * p - 1, p * p, p * p + p - 1, p * p + p};
            for (int line : lines) {
                int[] u = Edges.triple(p, line);
                // xx and a LINE'S own square: the LINE lies on the second one, and each POINT of it is ON that.
                int[] twice = {u[0] * u[0], u[1] * u[1], u[2] * u[2], 2 * u[1] * u[2], 2 * u[2] * u[0], 2 * u[0] * u[1]};
                for (int i = 0; i < 6; i++) {
                    twice[i] = Math.floorMod(twice[i], p);
                }
                ConicDesk desk = desk(p, twice, twice);
                Due.is("the line of (u : v : w), p " + p, desk.on(0, 0, true), line);
                Due.is("its number", desk.number(u[0], u[1], u[2]), line);
                int first = desk.on(0, 0, false);
                for (int k = 0; k <= p; k++) {
                    int point = desk.on(0, k, false);
                    Due.holds("u x + v y + w z is 0 at " + point, point >= 0 && Edges.meet(p, line, point));
                    Due.is("joined to the first one", desk.joined(first, point), k == 0 ? NONE : line);
                }
                Due.is("no more of it", desk.on(0, p + 1, false), NONE);
            }
        }
    }

    private static void tangentAtAPoint() {
        Due.sentence(T1, "TANGENT at a POINT of a CONIC: its POLAR.");
        for (int p : Edges.PRIMES) {
            for (int[] n : PROPER) {
                if (proper(p, n) == 0) {
                    continue;
                }
                ConicDesk desk = desk(p, n, n);
                for (int k = 0; k <= p; k++) {
                    int point = desk.on(0, k, false);
                    int line = desk.tangent(0, point, 0);
                    Due.is("the tangent at " + point + ", p " + p, line, polarOf(p, n, point));
                    Due.is("its polar", desk.polar(0, point), line);
                    Due.is("there is one alone", desk.tangent(0, point, NONE), 1);
                    Due.holds("it goes through it", line >= 0 && Edges.meet(p, line, point));
                    Due.is("it has no other point of it", desk.meets(0, line), 1);
                }
            }
        }
    }

    private static void dualHasTheTangents() {
        Due.sentence(T1, "DUAL of a CONIC of KIND 4: the CONIC that has, as POINTS, the numbers (u : v : w) of just its TANGENTS");
        Due.sentence(T2, "TURN: a CONIC becomes the DUAL of one;");
        for (int p : Edges.PRIMES) {
            for (int[] n : PROPER) {
                if (proper(p, n) == 0) {
                    continue;
                }
                ConicDesk desk = desk(p, n, n);
                Due.is("turn", desk.turn(1, 0), 0);
                int[] tangents = new int[p + 1];
                for (int k = 0; k <= p; k++) {
                    tangents[k] = polarOf(p, n, desk.on(0, k, false));
                }
                Arrays.sort(tangents);
                for (int k = 0; k <= p; k++) {
                    Due.is("point " + k + " of the dual, p " + p, desk.on(1, k, false), tangents[k]);
                }
                Due.is("no more", desk.on(1, p + 1, false), NONE);
                Due.is("turned once more", desk.turn(1, 1), 0);
                for (int k = 0; k <= p; k++) {
                    Due.is("the dual of the dual has its points", desk.on(1, k, false), desk.on(0, k, false));
                }
                Due.is("the one that was turned stays", desk.conic(0, 15), n[5]);
            }
        }
    }

    private static void dualNumbers() {
        Due.sentence(T1, "with MATRIX twice what is ADJOINT: a' = 4 b c - f f, b' = 4 a c - g g, c' = 4 a b - h h, f' = 2 (g h - 2 a f), "
            + "g' = 2 (f h - 2 b g), h' = 2 (f g - 2 c h), all modulo p.");
        Due.sentence("Promise 9", "TURN.");
        for (int p : Edges.PRIMES) {
            int turned = 0;
            for (int seed = 0; seed < 60; seed++) {
                int[] n = row(seed, seed % 2 == 0 ? 99 : 3);
                ConicDesk desk = desk(p, n, n);
                int a = n[0], b = n[1], c = n[2], f = n[3], g = n[4], h = n[5];
                int[] due = {4 * b * c - f * f, 4 * a * c - g * g, 4 * a * b - h * h, 2 * (g * h - 2 * a * f), 2 * (f * h - 2 * b * g),
                    2 * (f * g - 2 * c * h)};
                boolean can = proper(p, n) != 0;
                Due.is("turn of " + Arrays.toString(n) + ", p " + p, desk.turn(3, 1), can ? 0 : 5);
                for (int i = 0; i < 6; i++) {
                    Due.is("number " + i + " of the dual", desk.conic(3, 10 + i), can ? Math.floorMod(due[i], p) : i == 0 ? 1 : 0);
                }
                turned += can ? 1 : 0;
            }
            Due.holds("some are turned, p " + p, turned > 20);
        }
    }

    private static void onOrOutsideOrInside() {
        Due.sentence(T1, "A POINT lies ON a CONIC, or else (KIND 4) OUTSIDE, if TANGENTS go through it (two), INSIDE, if none does.");
        for (int p : Edges.PRIMES) {
            for (int[] n : PROPER) {
                if (proper(p, n) == 0) {
                    continue;
                }
                boolean[] tangent = new boolean[Edges.points(p)];
                for (int point = 0; point < Edges.points(p); point++) {
                    if (Edges.value(p, n, point) == 0) {
                        tangent[polarOf(p, n, point)] = true;
                    }
                }
                ConicDesk desk = null;
                int[] found = new int[3];
                for (int point = 0; point < Edges.points(p); point++) {
                    if (point % ENOUGH == 0) {
                        desk = desk(p, n, n);
                    }
                    int through = 0;
                    for (int line = 0; line < Edges.points(p); line++) {
                        through += tangent[line] && Edges.meet(p, line, point) ? 1 : 0;
                    }
                    int due = Edges.value(p, n, point) == 0 ? 0 : through == 2 ? 1 : 2;
                    found[due]++;
                    Due.is("tangents through " + point, desk.tangent(1, point, NONE), through);
                    Due.is("lies(1, " + point + "), p " + p, desk.lies(1, point), due);
                }
                Due.is("ON it", desk.conic(1, 6), found[0]);
                Due.is("OUTSIDE", desk.conic(1, 8), found[1]);
                Due.is("INSIDE", desk.conic(1, 9), found[2]);
            }
        }
    }

    // ---- Terms 1: the PENCIL

    private static boolean isPencil(int p, int[] one, int[] other) {
        for (int i = 0; i < 6; i++) {
            for (int j = 0; j < i; j++) {
                if (Math.floorMod(one[i] * other[j] - one[j] * other[i], p) != 0) {
                    return true;
                }
            }
        }
        return false;
    }

    private static void members() {
        Due.sentence(T1, "MEMBERS 0 to p: A times t and B for t 0 to p - 1, then A.");
        for (int p : Edges.PRIMES) {
            for (int seed = 0; seed < 6; seed++) {
                int[] a = row(2 * seed, 99);
                int[] b = row(2 * seed + 1, 3);
                Due.holds("there is a pencil", isPencil(p, a, b));
                ConicDesk desk = desk(p, a, b);
                for (int t = 0; t <= p; t++) {
                    for (int i = 0; i < 6; i++) {
                        int due = Math.floorMod(t < p ? a[i] * t + b[i] : a[i], p);
                        Due.is("member(0, 1, " + t + ", " + i + "), p " + p, desk.member(0, 1, t, i), due);
                    }
                }
                Due.is("none behind them", desk.member(0, 1, p + 1, 0), NONE);
                Due.is("none ahead", desk.member(0, 1, -1, 0), NONE);
            }
        }
    }

    private static void base() {
        Due.sentence(T1, "BASE: POINTS of both.");
        for (int p : Edges.PRIMES) {
            for (int seed = 0; seed < 20; seed++) {
                int[] a = row(seed, 5);
                int[] b = row(seed + 100, 2);
                if (!isPencil(p, a, b)) {
                    continue;
                }
                ConicDesk desk = desk(p, a, b);
                int k = 0;
                for (int point = 0; point < Edges.points(p); point++) {
                    if (Edges.value(p, a, point) == 0 && Edges.value(p, b, point) == 0) {
                        Due.is("the base's " + k + ", p " + p, desk.pencil(0, 1, 100 + k), point);
                        k++;
                    }
                }
                Due.is("how many, p " + p, desk.pencil(0, 1, 0), k);
            }
        }
    }

    private static void fallen() {
        Due.sentence(T1, "FALLEN are MEMBERS of KIND below 4.");
        for (int p : Edges.PRIMES) {
            for (int seed = 0; seed < 20; seed++) {
                int[] a = row(seed + 40, 4);
                int[] b = row(seed + 140, 2);
                if (!isPencil(p, a, b)) {
                    continue;
                }
                ConicDesk desk = desk(p, a, b);
                int below = 0;
                for (int t = 0; t <= p; t++) {
                    int[] member = new int[6];
                    for (int i = 0; i < 6; i++) {
                        member[i] = Math.floorMod(t < p ? a[i] * t + b[i] : a[i], p);
                    }
                    boolean fallen = proper(p, member) == 0;
                    below += fallen ? 1 : 0;
                    Due.is("member " + t + " is of kind 4, p " + p, desk.pencil(0, 1, 1000 + t) == 4 ? 1 : 0, fallen ? 0 : 1);
                }
                Due.is("how many, p " + p, desk.pencil(0, 1, 1), below);
            }
        }
    }

    // ---- Terms 2: acts

    private static void answersOfActs() {
        Due.sentence("The constants", "acts: 0, or why it is REFUSED.");
        ConicDesk desk = Edges.desk("conic 0 1 1 -1 0 0 0;conic 1 7 0 0 0 0 0;");
        Due.refused("set", desk, desk.set(2, 2, -1), 0, 0);
        Due.refused("set, why it is not", desk, desk.set(2, 2, -1), 2, 0);
        Due.refused("sum", desk, desk.sum(3, 0, 2, 2, 1), 0, 0);
        Due.refused("sum, why it is not", desk, desk.sum(3, 0, 0, 2, 0), 3, 0);
        Due.refused("turn", desk, desk.turn(4, 0), 0, 0);
        Due.refused("turn, why it is not", desk, desk.turn(4, 1), 5, 6);
        Due.refused("twist", desk, desk.twist(3, 1), 0, 0);
        Due.refused("twist, why it is not", desk, desk.twist(0, 0), 2, 0);
        Due.refused("through, why it is not", desk, desk.through(0), 10, 11);
        int[] five = {0, 49, 56, 8, 17};
        for (int point : five) {
            Due.refused("mark", desk, desk.mark(point, false), 0, 0);
        }
        Due.refused("mark, why it is not", desk, desk.mark(8, false), 2, 0);
        Due.refused("through", desk, desk.through(0), 0, 0);
        Due.refused("unmark", desk, desk.mark(8, true), 0, 0);
        Due.refused("unmark, why it is not", desk, desk.mark(8, true), 2, 0);
        Due.refused("prime", desk, desk.prime(3), 0, 0);
        Due.refused("prime, why it is not", desk, desk.prime(2), 1, 0);
    }

    private static void acts() {
        Due.sentence(T2, "ACTS. PRIME; SET a number of a CONIC; SUM: a CONIC becomes one times x and another one times y;");
        Due.sentence(T2, "MARK, UNMARK a POINT");
        Due.sentence("Promise 6", "PRIME.");
        Due.sentence("Promise 8", "SUM:");
        Due.sentence("Promise 10", "TWIST.");
        Due.sentence("Promise 11", "THROUGH.");
        int[] one = {1, -2, 3, -4, 5, -6};
        int[] other = {6, 5, 4, 3, 2, 1};
        for (int p : Edges.PRIMES) {
            ConicDesk desk = desk(p == 7 ? 3 : 7, one, other);
            Due.is("PRIME", desk.prime(p), 0);
            Due.is("it is " + p, desk.count(0), p);
            Due.is("its plane", desk.count(1), Edges.points(p));
            Due.is("SET", desk.set(2, 4, -99), 0);
            Due.numbers("one number", desk, 2, 1, 0, 0, 0, -99, 0);
            Due.is("SUM", desk.sum(3, 0, 7, 1, -3), 0);
            Due.numbers("one times 7, the other times -3", desk, 3, -11, -29, 9, -37, 29, -45);
            Due.is("TWIST", desk.twist(0, 0), 0);
            Due.numbers("x and y", desk, 0, -2, 1, 3, 5, -4, -6);
            int[] five = {0, p * p, p * p + p, p + 1, 2 * p + (p == 3 ? 1 : 3)};
            for (int k = 0; k < 5; k++) {
                Due.is("MARK", desk.mark(five[k], false), 0);
                Due.is("it is the latest one", desk.marked(k), five[k]);
            }
            Due.is("one is left, p " + p, desk.count(3), 1);
            Due.is("THROUGH", desk.through(5), 0);
            for (int point : five) {
                Due.is("it goes through each", desk.lies(5, point), 0);
            }
            Due.is("UNMARK", desk.mark(five[0], true), 0);
            Due.is("four are MARKED", desk.count(2), 4);
            Due.is("the next one is the first", desk.marked(0), five[1]);
        }
    }

    // ---- what there is

    private static void theConstants() {
        Due.sentence("The constants", "`NONE = -1`: There is none.");
        ConicDesk desk = Edges.desk("conic 0 1 1 -1 0 0 0;conic 1 0 0 1 0 0 -99;");
        int[] none = {desk.count(9), desk.place(57, 0), desk.number(0, 0, 0), desk.joined(3, 3), desk.marked(0), desk.lies(6, 0),
            desk.on(0, 8, false), desk.polar(2, 49), desk.pole(2, 0), desk.meets(0, 57), desk.tangent(2, 0, 0), desk.pencil(2, 3, 0),
            desk.member(2, 3, 0, 0), desk.passing(2, 3, 0), desk.only(0), desk.freed(57), desk.undo(), desk.end(1), desk.fault(1),
            desk.why(2)};
        for (int k = 0; k < none.length; k++) {
            Due.is("none, " + k, none[k], -1);
        }
        Due.sentence("The constants", "`UNKNOWN = -2000000000`: Told where a number below 0 may be one: there is none such.");
        Due.is("a number below 0", desk.conic(0, 12), -1);
        Due.is("a d below 0", desk.conic(1, 3), -9801);
        Due.is("none such", desk.conic(0, 16), -2000000000);
        Due.is("none such", desk.conic(6, 12), -2000000000);
        Due.is("of a question of KIND 4 there is none", desk.conic(2, 8), -1);
    }

    private static void kindsAndRanks() {
        Due.sentence("Promise 16", "Of a CONIC, .. 1: KIND, 2: RANK,");
        int[] ranks = {0, 1, 2, 2, 3};
        for (int p : Edges.PRIMES) {
            int[][] kinds = Edges.kinds(p);
            for (int kind = 0; kind < 5; kind++) {
                ConicDesk desk = desk(p, kinds[kind], kinds[4 - kind]);
                Due.is("KIND, p " + p, desk.conic(0, 1), kind);
                Due.is("RANK, p " + p, desk.conic(0, 2), ranks[kind]);
                Due.is("KIND of the other one", desk.conic(1, 1), 4 - kind);
                Due.is("RANK of the other one", desk.conic(1, 2), ranks[4 - kind]);
                Due.is("of one as at first", desk.conic(2, 1), 1);
                Due.is("no such CONIC", desk.conic(6, 1), UNKNOWN);
            }
        }
    }

    private static void placesOfLines() {
        Due.sentence("Promise 17", "Of a POINT or LINE of a number,");
        for (int p : Edges.PRIMES) {
            ConicDesk desk = desk(p, PROPER[0], PROPER[1]);
            for (int k = 0; k < 40; k++) {
                int line = desk.joined(k * k % Edges.points(p), (k + 5) % Edges.points(p));
                if (line == NONE) {
                    continue;
                }
                int[] u = Edges.triple(p, line);
                for (int what = 0; what < 3; what++) {
                    Due.is("place(" + line + ", " + what + "), p " + p, desk.place(line, what), u[what]);
                }
            }
        }
    }

    private static void polarsAndPoles() {
        Due.sentence("Promise 23", "POLAR of a POINT by a CONIC.");
        Due.sentence("Promise 24", "POLE of a LINE by a CONIC.");
        Due.sentence("Promise 26", "The k-th LINE that is a TANGENT of a CONIC of KIND 4 and goes through a POINT");
        for (int p : Edges.PRIMES) {
            for (int[] n : PROPER) {
                if (proper(p, n) == 0) {
                    continue;
                }
                ConicDesk desk = desk(p, PROPER[0], n);
                for (int k = 0; k < 40; k++) {
                    int point = 31 * k % Edges.points(p);
                    int line = polarOf(p, n, point);
                    Due.is("POLAR of " + point + ", p " + p, desk.polar(1, point), line);
                    Due.is("POLE of " + line + ", p " + p, desk.pole(1, line), point);
                    int tangent = desk.tangent(1, point, 0);
                    if (tangent != NONE) {
                        Due.holds("a TANGENT goes through it", Edges.meet(p, tangent, point));
                        Due.is("and is POLAR of its own POINT", polarOf(p, n, desk.pole(1, tangent)), tangent);
                        Due.is("which is ON it", desk.lies(1, desk.pole(1, tangent)), 0);
                    }
                }
            }
        }
    }
}
