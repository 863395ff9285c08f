/** Promises 27 to 29: two conics. */
public final class PencilTest {
    private static final int NONE = ConicDesk.NONE;
    private static final int LOWEST = Integer.MIN_VALUE;
    private static final int HIGHEST = Integer.MAX_VALUE;

    public static void main(String[] args) {
        promise27PencilOfFourPoints();
        promise27PencilOfTouchingOnes();
        promise27PencilOfLines();
        promise27NoPencil();
        promise28Member();
        promise29Passing();
        Due.end("PencilTest");
    }

    private static ConicDesk desk(String text, int lines) {
        ConicDesk desk = new ConicDesk();
        Due.is("text of '" + text + "'", Due.text(desk, text), lines);
        return desk;
    }

    private static void promise27PencilOfFourPoints() {
        // The CONICS through (1:1:1), (1:1:-1), (1:-1:1), (1:-1:-1) are sums of xx - yy and xx - zz.
        ConicDesk desk = desk("conic 0 1 -1 0 0 0 0;conic 1 1 0 -1 0 0 0;", 2);
        Due.is("base", desk.pencil(0, 1, 0), 4);
        int[] base = {8, 13, 43, 48};
        for (int k = 0; k < 4; k++) {
            Due.is("base point", desk.pencil(0, 1, 100 + k), base[k]);
        }
        Due.is("no fifth", desk.pencil(0, 1, 104), NONE);
        Due.is("fallen", desk.pencil(0, 1, 1), 3);
        Due.is("both fallen", desk.pencil(0, 1, 2), NONE);
        int fallen = 0;
        for (int t = 0; t < 8; t++) {
            int kind = desk.pencil(0, 1, 1000 + t);
            Due.is("points", desk.pencil(0, 1, 2000 + t), kind == 4 ? 8 : 15);
            Due.is("lines", desk.pencil(0, 1, 3000 + t), kind == 4 ? 0 : 2);
            fallen += kind < 4 ? 1 : 0;
        }
        Due.is("fallen, one by one", fallen, 3);
        Due.is("member p is the first one", desk.pencil(0, 1, 1007), 2);
        Due.is("no member p + 1", desk.pencil(0, 1, 1008), NONE);
        Due.is("no member p + 1", desk.pencil(0, 1, 2008), NONE);
        Due.is("no member p + 1", desk.pencil(0, 1, 3008), NONE);
        int[] wrong = {-1, 3, 4, 99, 999, 1999, 2999, 4000, LOWEST, HIGHEST};
        for (int what : wrong) {
            Due.is("pencil, what " + what, desk.pencil(0, 1, what), NONE);
        }
    }

    private static void promise27PencilOfTouchingOnes() {
        // xx + yy - zz and 2 xx + yy - zz touch at (0:1:1) and (0:1:-1): their difference is xx.
        ConicDesk desk = desk("conic 0 1 1 -1 0 0 0;conic 1 2 1 -1 0 0 0;conic 2 1 1 1 0 0 1;", 3);
        Due.is("base", desk.pencil(0, 1, 0), 2);
        Due.is("touching", desk.pencil(0, 1, 2), 2);
        Due.is("the first", desk.pencil(0, 1, 100), 50);
        Due.is("the second", desk.pencil(0, 1, 101), 55);
        // 6 A + B = xx, and A - B times: kind 1; 0 A + B, A: kind 4.
        Due.is("xx is a member", desk.pencil(0, 1, 1006), 1);
        Due.is("on xx", desk.pencil(0, 1, 2006), 8);
        Due.is("line of xx", desk.pencil(0, 1, 3006), 1);
        Due.is("member 0", desk.pencil(0, 1, 1000), 4);
        // yy - zx and 2 yy - zx touch at (1:0:0) and (0:0:1), POINTS of the first and the last number.
        ConicDesk ends = desk("conic 0 0 1 0 0 -1 0;conic 1 0 2 0 0 -1 0;conic 2 1 0 0 0 0 0;", 3);
        Due.is("touching at both ends", ends.pencil(0, 1, 2), 2);
        Due.is("the first point", ends.pencil(0, 1, 100), 0);
        Due.is("the last point", ends.pencil(0, 1, 101), 56);
        Due.is("the second one is of kind 1", ends.pencil(0, 2, 2), NONE);
        Due.is("the first one is of kind 1", ends.pencil(2, 0, 2), NONE);
        Due.is("one way", desk.pencil(0, 2, 2), desk.pencil(2, 0, 2));
    }

    private static void promise27PencilOfLines() {
        // x y and x z have the LINE x = 0 and (1:0:0); all MEMBERS are x times a line.
        ConicDesk desk = desk("prime 5;conic 0 0 0 0 0 0 1;conic 1 0 0 0 0 1 0;", 3);
        Due.is("base", desk.pencil(0, 1, 0), 7);
        Due.is("(1:0:0)", desk.pencil(0, 1, 100), 0);
        Due.is("(0:1:0)", desk.pencil(0, 1, 101), 25);
        Due.is("(0:0:1)", desk.pencil(0, 1, 106), 30);
        Due.is("no more", desk.pencil(0, 1, 107), NONE);
        Due.is("all fallen", desk.pencil(0, 1, 1), 6);
        // xx + yy and zz, where -1 is no square: no point is of both.
        ConicDesk other = desk("prime 3;conic 0 1 1 0 0 0 0;conic 1 0 0 1 0 0 0;", 3);
        Due.is("empty base", other.pencil(0, 1, 0), 0);
        Due.is("no first", other.pencil(0, 1, 100), NONE);
        Due.is("kind 1", other.pencil(0, 1, 1000), 1);
        Due.is("kind 3", other.pencil(0, 1, 1003), 3);
        Due.is("one point", other.pencil(0, 1, 2003), 1);
        Due.is("no line", other.pencil(0, 1, 3003), 0);
    }

    private static void promise27NoPencil() {
        ConicDesk desk = desk("conic 0 1 2 0 0 0 0;conic 1 -3 8 0 14 0 0;conic 2 7 0 0 0 0 0;conic 3 0 1 0 0 0 0;", 4);
        int[][] pairs = {{0, 0}, {0, 1}, {1, 0}, {0, 2}, {2, 0}, {2, 2}, {-1, 0}, {0, -1}, {6, 0}, {0, 6},
            {LOWEST, HIGHEST}};
        for (int[] pair : pairs) {
            String told = " of " + pair[0] + " and " + pair[1];
            Due.is("base" + told, desk.pencil(pair[0], pair[1], 0), NONE);
            Due.is("kind" + told, desk.pencil(pair[0], pair[1], 1000), NONE);
            Due.is("member" + told, desk.member(pair[0], pair[1], 0, 0), NONE);
            Due.is("passing" + told, desk.passing(pair[0], pair[1], 0), NONE);
        }
        Due.is("another prime tells them apart", desk.prime(5), 0);
        Due.is("a pencil", desk.pencil(0, 1, 0) == NONE ? 0 : 1, 1);
        Due.is("and none void", desk.pencil(0, 2, 0) == NONE ? 0 : 1, 1);
    }

    private static void promise28Member() {
        ConicDesk desk = desk("prime 5;conic 0 1 2 3 4 5 6;conic 1 -1 0 9 0 0 1;", 3);
        int[] a = {1, 2, 3, 4, 0, 1};
        int[] b = {4, 0, 4, 0, 0, 1};
        for (int i = 0; i < 6; i++) {
            for (int t = 0; t < 5; t++) {
                Due.is("member " + t + ", " + i, desk.member(0, 1, t, i), (t * a[i] + b[i]) % 5);
            }
            Due.is("member p, " + i, desk.member(0, 1, 5, i), a[i]);
        }
        Due.is("member -1", desk.member(0, 1, -1, 0), NONE);
        Due.is("member p + 1", desk.member(0, 1, 6, 0), NONE);
        Due.is("number -1", desk.member(0, 1, 0, -1), NONE);
        Due.is("number 6", desk.member(0, 1, 0, 6), NONE);
        Due.is("number highest", desk.member(0, 1, 0, HIGHEST), NONE);
    }

    private static void promise29Passing() {
        ConicDesk desk = desk("conic 0 1 -1 0 0 0 0;conic 1 1 0 -1 0 0 0;", 2);
        Due.is("a base point: the first", desk.passing(0, 1, 8), 0);
        // t (1 - 4) + (1 - 2) = 0 at (1:2:3), zz being 2 there: -3 t = 1.
        Due.is("(1:2:3)", desk.passing(0, 1, 17), 2);
        // (1:1:2): A is 0 there, B is not.
        Due.is("the last one alone", desk.passing(0, 1, 9), 7);
        Due.is("(1:0:1) is on B", desk.passing(0, 1, 1), 0);
        Due.is("none such", desk.passing(0, 1, 57), NONE);
        Due.is("none such", desk.passing(0, 1, -1), NONE);
    }
}
