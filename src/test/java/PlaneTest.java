/** Promises 15 to 26: what there is. */
public final class PlaneTest {
    private static final int NONE = ConicDesk.NONE;
    private static final int UNKNOWN = ConicDesk.UNKNOWN;
    private static final int LOWEST = Integer.MIN_VALUE;
    private static final int HIGHEST = Integer.MAX_VALUE;
    private static final String CIRCLE = "conic 0 1 1 -1 0 0 0;";

    public static void main(String[] args) {
        promise15Count();
        promise16ConicSorts();
        promise16ConicOverTheField();
        promise16ConicNoneSuch();
        promise17Place();
        promise18Number();
        promise19Joined();
        promise20Marked();
        promise21Lies();
        promise22On();
        promise23Polar();
        promise24Pole();
        promise25Meets();
        promise26Tangent();
        wrongOnes();
        Due.end("PlaneTest");
    }

    private static ConicDesk desk(String text, int lines) {
        ConicDesk desk = new ConicDesk();
        Due.is("text of '" + text + "'", Due.text(desk, text), lines);
        return desk;
    }

    private static void promise15Count() {
        ConicDesk desk = desk("prime 11;conic 0 1 1 1 0 0 0;conic 3 0 0 0 1 1 1;conic 4 11 11 0 0 0 0;", 4);
        Due.is("prime", desk.count(0), 11);
        Due.is("points", desk.count(1), 133);
        Due.is("proper ones", desk.count(6), 2);
        Due.is("count(8)", desk.count(8), NONE);
        Due.is("count(-1)", desk.count(-1), NONE);
        Due.is("count(lowest)", desk.count(LOWEST), NONE);
        desk.feed(0, 0, 0, 0, 0);
        Due.is("bytes", desk.count(5), 20);
        // (1:0:0) (1:0:1) are two of y = 0; (1:0:2) is the third; (1:1:0), (0:1:0) are with (1:0:0) on z = 0.
        int[] points = {0, 1, 2, 11, 121, 132};
        int[] inLine = {0, 0, 3, 3, 5, 6};
        int[] free = {5, 4, 3, 2, 1, 1};
        for (int k = 0; k < points.length; k++) {
            Due.is("mark", desk.mark(points[k], false), 0);
            Due.is("marked", desk.count(2), k + 1);
            Due.is("free", desk.count(3), free[k]);
            Due.is("on a line with two others", desk.count(7), inLine[k]);
            Due.is("acts", desk.count(4), k + 1);
        }
        ConicDesk other = desk("point 8;point 16;point 24;point 0;", 4);
        Due.is("of four, three in line: all, as all are (1:k:k)", other.count(7), 4);
        Due.is("mark", other.mark(1, false), 0);
        Due.is("one is off it", other.count(7), 4);
    }

    private static void promise16ConicSorts() {
        String[] texts = {"1 1 -1 0 0 0", "1 1 1 0 0 0", "1 0 0 1 0 0", "1 -1 1 0 0 0", "1 1 0 0 0 0",
            "1 -1 0 0 0 0", "1 0 -1 0 0 0", "1 0 1 0 0 0", "1 0 0 0 0 0", "0 0 0 1 0 0", "0 0 1 0 0 0"};
        for (int sort = 0; sort < texts.length; sort++) {
            Due.is("sort of " + texts[sort], desk("conic 1 " + texts[sort] + ";", 1).conic(1, 0), sort);
        }
        Due.is("ellipse of numbers below 0", desk("conic 1 -1 -1 1 0 0 0;", 1).conic(1, 0), 0);
        Due.is("none there, below 0", desk("conic 1 -1 -1 -1 0 0 0;", 1).conic(1, 0), 1);
        Due.is("h alone", desk("conic 1 0 0 0 0 0 1;", 1).conic(1, 0), 5);
        Due.is("b alone", desk("conic 1 0 1 -1 0 0 0;", 1).conic(1, 0), 6);
        Due.is("g alone", desk("conic 1 0 0 0 0 1 0;", 1).conic(1, 0), 9);
        Due.is("side by side, of i by g", desk("conic 1 1 0 0 0 1 0;", 1).conic(1, 0), 6);
        Due.is("twice, with h", desk("conic 1 1 1 0 0 0 2;", 1).conic(1, 0), 8);
        Due.is("parabola of yy", desk("conic 1 0 1 0 0 1 0;", 1).conic(1, 0), 2);
        Due.is("hyperbola of xy", desk("conic 1 0 0 1 0 0 1;", 1).conic(1, 0), 3);
        // e times a + b is beyond an int here.
        ConicDesk far = desk("conic 1 99 99 -99 99 99 -99;conic 2 99 99 99 0 0 0;", 2);
        Due.is("far ellipse, e", far.conic(1, 4), -12 * 970299);
        Due.is("far ellipse", far.conic(1, 0), 0);
        Due.is("far and none there", far.conic(2, 0), 1);
        ConicDesk desk = desk("conic 2 1 2 3 4 5 6;", 1);
        Due.is("d", desk.conic(2, 3), 8 - 36);
        Due.is("e", desk.conic(2, 4), 48 + 240 - 32 - 100 - 216);
        Due.is("i", desk.conic(2, 5), 24 - 16 + 12 - 25);
    }

    private static void promise16ConicOverTheField() {
        String[] texts = {"7 -7 0 14 0 77", "1 0 0 0 0 0", "1 -1 0 0 0 0", "1 1 0 0 0 0", "1 1 1 0 0 0"};
        int[] ranks = {0, 1, 2, 2, 3};
        int[] points = {57, 8, 15, 1, 8};
        int[] lines = {57, 1, 2, 0, 0};
        for (int kind = 0; kind < texts.length; kind++) {
            ConicDesk desk = desk("conic 5 " + texts[kind] + ";", 1);
            Due.is("kind of " + texts[kind], desk.conic(5, 1), kind);
            Due.is("rank", desk.conic(5, 2), ranks[kind]);
            Due.is("points", desk.conic(5, 6), points[kind]);
            Due.is("lines", desk.conic(5, 7), lines[kind]);
            Due.is("outside", desk.conic(5, 8), kind == 4 ? 28 : NONE);
            Due.is("inside", desk.conic(5, 9), kind == 4 ? 21 : NONE);
        }
        // -1 is a square modulo 5 and 13, none modulo 3 and 23.
        int[] primes = {3, 5, 13, 23};
        int[] kinds = {3, 2, 2, 3};
        for (int k = 0; k < primes.length; k++) {
            ConicDesk desk = desk("prime " + primes[k] + ";conic 0 0 1 1 0 0 0;", 2);
            Due.is("kind of yy + zz", desk.conic(0, 1), kinds[k]);
        }
        ConicDesk three = desk("prime 3;conic 0 0 0 0 1 1 1;", 2);
        Due.is("outside of p 3", three.conic(0, 8), 6);
        Due.is("inside of p 3", three.conic(0, 9), 3);
        ConicDesk desk = desk("conic 1 -1 8 -99 7 99 -50;", 1);
        int[] reduced = {6, 1, 6, 0, 1, 6};
        for (int i = 0; i < 6; i++) {
            Due.is("modulo 7", desk.conic(1, 20 + i), reduced[i]);
        }
        Due.numbers("as they are", desk, 1, -1, 8, -99, 7, 99, -50);
    }

    private static void promise16ConicNoneSuch() {
        ConicDesk desk = new ConicDesk();
        int[] wrong = {-1, 16, 17, 18, 19, 26, 100, LOWEST, HIGHEST};
        for (int what : wrong) {
            Due.is("conic(0, " + what + ")", desk.conic(0, what), UNKNOWN);
        }
        Due.is("conic(-1, 1)", desk.conic(-1, 1), UNKNOWN);
        Due.is("conic(6, 9)", desk.conic(6, 9), UNKNOWN);
        Due.is("conic(lowest, 10)", desk.conic(LOWEST, 10), UNKNOWN);
    }

    private static void promise17Place() {
        int[] primes = {3, 7, 23};
        for (int p : primes) {
            ConicDesk desk = desk("prime " + p + ";", 1);
            int number = 0;
            for (int y = 0; y < p; y++) {
                for (int z = 0; z < p && number < 60; z++) {
                    placed(desk, number++, 1, y, z);
                }
            }
            for (int z = 0; z < p; z++) {
                placed(desk, p * p + z, 0, 1, z);
            }
            placed(desk, p * p + p, 0, 0, 1);
            Due.is("beyond", desk.place(p * p + p + 1, 0), NONE);
        }
        ConicDesk desk = new ConicDesk();
        Due.is("place(-1, 0)", desk.place(-1, 0), NONE);
        Due.is("place(0, 3)", desk.place(0, 3), NONE);
        Due.is("place(0, -1)", desk.place(0, -1), NONE);
        Due.is("place(highest, 0)", desk.place(HIGHEST, 0), NONE);
    }

    private static void placed(ConicDesk desk, int number, int x, int y, int z) {
        Due.is("place(" + number + ", 0)", desk.place(number, 0), x);
        Due.is("place(" + number + ", 1)", desk.place(number, 1), y);
        Due.is("place(" + number + ", 2)", desk.place(number, 2), z);
        Due.is("number of " + x + " " + y + " " + z, desk.number(x, y, z), number);
    }

    private static void promise18Number() {
        ConicDesk desk = new ConicDesk();
        Due.is("number(3, 1, 2)", desk.number(3, 1, 2), 7 * 5 + 3);
        Due.is("number(-3, -1, -2)", desk.number(-3, -1, -2), 7 * 5 + 3);
        Due.is("number(0, 4, 1)", desk.number(0, 4, 1), 49 + 2);
        Due.is("number(14, -7, 5)", desk.number(14, -7, 5), 56);
        Due.is("number(0, 0, 0)", desk.number(0, 0, 0), NONE);
        Due.is("number(7, -14, 21)", desk.number(7, -14, 21), NONE);
        // The lowest int is 5 modulo 7, the highest 1.
        Due.is("number(lowest, 0, highest)", desk.number(LOWEST, 0, HIGHEST), 3);
    }

    private static void promise19Joined() {
        ConicDesk desk = new ConicDesk();
        Due.is("x and y axes' points", desk.joined(0, 49), 56);
        Due.is("the other way", desk.joined(49, 0), 56);
        Due.is("(1:0:0) (0:0:1)", desk.joined(0, 56), 49);
        // (1:1:1) and (1:2:3): (3 - 2, 1 - 3, 2 - 1)
        Due.is("(1:1:1) (1:2:3)", desk.joined(8, 17), desk.number(1, -2, 1));
        Due.is("one alone", desk.joined(8, 8), NONE);
        Due.is("none such", desk.joined(57, 0), NONE);
        Due.is("none such", desk.joined(0, 57), NONE);
        Due.is("none such", desk.joined(-1, -1), NONE);
        for (int k = 1; k < 57; k++) {
            int line = desk.joined(0, k);
            Due.is("a line through 0 has u 0", desk.place(line, 0), 0);
        }
    }

    private static void promise20Marked() {
        ConicDesk desk = desk("point 9;point 3;point 6;", 3);
        Due.is("marked(0)", desk.marked(0), 9);
        Due.is("marked(1)", desk.marked(1), 3);
        Due.is("marked(2)", desk.marked(2), 6);
        Due.is("marked(3)", desk.marked(3), NONE);
        Due.is("marked(-1)", desk.marked(-1), NONE);
        Due.is("marked(highest)", desk.marked(HIGHEST), NONE);
    }

    private static void promise21Lies() {
        ConicDesk desk = desk(CIRCLE + "pair 1 1 1 0 1 -1 0;conic 2 7 0 0 0 0 0;conic 3 1 1 0 0 0 0;", 4);
        int[] where = new int[3];
        for (int point = 0; point < 57; point++) {
            int lies = desk.lies(0, point);
            Due.holds("0 to 2", lies >= 0 && lies < 3);
            where[lies]++;
            Due.is("tangents tell it", desk.tangent(0, point, NONE), lies == 2 ? 0 : 2 - (lies == 0 ? 1 : 0));
        }
        Due.is("on", where[0], 8);
        Due.is("outside", where[1], 28);
        Due.is("inside", where[2], 21);
        Due.is("on a pair", desk.lies(1, 56), 0);
        Due.is("neither", desk.lies(1, 0), 3);
        Due.is("on void", desk.lies(2, 33), 0);
        Due.is("the one point", desk.lies(3, 56), 0);
        Due.is("neither", desk.lies(3, 55), 3);
    }

    private static void promise22On() {
        ConicDesk desk = desk(CIRCLE + "pair 1 1 1 0 1 -1 0;conic 2 7 0 0 0 0 0;conic 3 1 1 0 0 0 0;"
            + "conic 4 0 0 1 0 0 0;", 5);
        int before = -1;
        for (int k = 0; k < 8; k++) {
            int point = desk.on(0, k, false);
            Due.holds("rising", point > before);
            Due.is("on it", desk.lies(0, point), 0);
            before = point;
        }
        Due.is("no ninth", desk.on(0, 8, false), NONE);
        Due.is("no line", desk.on(0, 0, true), NONE);
        Due.is("(1:1:0)", desk.on(1, 0, true), 7);
        Due.is("(1:-1:0)", desk.on(1, 1, true), 42);
        Due.is("no third", desk.on(1, 2, true), NONE);
        Due.is("void's", desk.on(2, 56, true), 56);
        Due.is("void's", desk.on(2, 56, false), 56);
        Due.is("no more", desk.on(2, 57, true), NONE);
        Due.is("no more", desk.on(2, 57, false), NONE);
        Due.is("the one point", desk.on(3, 0, false), 56);
        Due.is("no line", desk.on(3, 0, true), NONE);
        Due.is("z twice", desk.on(4, 0, true), 56);
        Due.is("z twice", desk.on(4, 1, true), NONE);
        Due.is("z twice", desk.on(4, 7, false), 49);
    }

    private static void promise23Polar() {
        ConicDesk desk = desk("conic 0 1 2 3 1 1 -1;pair 1 1 1 0 1 -1 0;conic 2 7 0 0 0 0 0;", 3);
        // Rows (2, -1, 1), (-1, 4, 1), (1, 1, 6)
        Due.is("polar of (1:0:0)", desk.polar(0, 0), desk.number(2, -1, 1));
        Due.is("polar of (1:2:3)", desk.polar(0, 17), desk.number(3, 10, 21));
        Due.is("of the crossing", desk.polar(1, 56), NONE);
        Due.is("of another", desk.polar(1, 0), 0);
        Due.is("of void", desk.polar(2, 5), NONE);
    }

    private static void promise24Pole() {
        ConicDesk desk = desk("prime 11;conic 0 1 2 3 1 1 -1;pair 1 1 1 0 1 -1 0;", 3);
        for (int point = 0; point < 133; point++) {
            Due.is("pole of the polar", desk.pole(0, desk.polar(0, point)), point);
        }
        Due.is("of kind 2", desk.pole(1, 0), NONE);
    }

    private static void promise25Meets() {
        ConicDesk desk = desk(CIRCLE + "pair 1 1 1 0 1 -1 0;conic 2 7 0 0 0 0 0;conic 3 1 1 0 0 0 0;"
            + "conic 4 0 0 1 0 0 0;", 5);
        int[] met = new int[3];
        for (int line = 0; line < 57; line++) {
            int count = desk.meets(0, line);
            Due.holds("0 to 2", count >= 0 && count < 3);
            met[count]++;
        }
        Due.is("none", met[0], 21);
        Due.is("tangents", met[1], 8);
        Due.is("two", met[2], 28);
        Due.is("a line of the pair", desk.meets(1, 7), 8);
        Due.is("through the crossing", desk.meets(1, 0), 1);
        Due.is("another", desk.meets(1, 56), 2);
        Due.is("void", desk.meets(2, 3), 8);
        Due.is("through the one point", desk.meets(3, 0), 1);
        Due.is("past it", desk.meets(3, 56), 0);
        Due.is("a line twice", desk.meets(4, 56), 8);
        Due.is("across it", desk.meets(4, 0), 1);
    }

    private static void promise26Tangent() {
        ConicDesk desk = desk(CIRCLE + "pair 1 1 1 0 1 -1 0;", 2);
        for (int point = 0; point < 57; point++) {
            int many = desk.tangent(0, point, NONE);
            int before = -1;
            for (int k = 0; k < many; k++) {
                int line = desk.tangent(0, point, k);
                Due.holds("rising", line > before);
                Due.is("a tangent", desk.meets(0, line), 1);
                int touched = desk.pole(0, line);
                Due.is("touched on it", desk.lies(0, touched), 0);
                if (touched != point) {
                    Due.is("through the point", desk.joined(point, touched), line);
                }
                before = line;
            }
            Due.is("no more", desk.tangent(0, point, many), NONE);
        }
        Due.is("k -2", desk.tangent(0, 0, -2), NONE);
        Due.is("k lowest", desk.tangent(0, 0, LOWEST), NONE);
        Due.is("k highest", desk.tangent(0, 0, HIGHEST), NONE);
        Due.is("of kind 2", desk.tangent(1, 0, NONE), NONE);
        Due.is("of kind 2", desk.tangent(1, 0, 0), NONE);
    }

    private static void wrongOnes() {
        ConicDesk desk = desk(CIRCLE, 1);
        int[] noConics = {-1, 6, LOWEST, HIGHEST};
        for (int conic : noConics) {
            Due.is("lies", desk.lies(conic, 0), NONE);
            Due.is("on", desk.on(conic, 0, false), NONE);
            Due.is("on", desk.on(conic, 0, true), NONE);
            Due.is("polar", desk.polar(conic, 0), NONE);
            Due.is("pole", desk.pole(conic, 0), NONE);
            Due.is("meets", desk.meets(conic, 0), NONE);
            Due.is("tangent", desk.tangent(conic, 0, NONE), NONE);
        }
        int[] noPoints = {-1, 57, LOWEST, HIGHEST};
        for (int point : noPoints) {
            Due.is("lies", desk.lies(0, point), NONE);
            Due.is("on", desk.on(0, point, false), NONE);
            Due.is("on", desk.on(0, point, true), NONE);
            Due.is("polar", desk.polar(0, point), NONE);
            Due.is("pole", desk.pole(0, point), NONE);
            Due.is("meets", desk.meets(0, point), NONE);
            Due.is("tangent", desk.tangent(0, point, NONE), NONE);
        }
    }
}
