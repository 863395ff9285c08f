/** What the tests of the document's boundaries share: its ranges, what lies beyond them, and desks. */
final class Edges {
    static final int NONE = ConicDesk.NONE;
    static final int UNKNOWN = ConicDesk.UNKNOWN;
    static final int LOWEST = Integer.MIN_VALUE;
    static final int HIGHEST = Integer.MAX_VALUE;
    static final int[] PRIMES = {3, 5, 7, 11, 13, 17, 19, 23};
    /** Numbers of a conic, from a to h, as they are called. */
    static final String[] NUMBERS = {"a", "b", "c", "f", "g", "h"};
    /** No CONIC, and no number of one, has such a number. */
    static final int[] NOT_OF_SIX = {-1, 6, LOWEST, LOWEST + 1, HIGHEST - 1, HIGHEST, 256, 1 << 16, -6, UNKNOWN};
    /** No number of a CONIC, no times of a SUM. */
    static final int[] BEYOND_99 = {-100, 100, LOWEST, LOWEST + 1, HIGHEST - 1, HIGHEST, 256 + 5, (1 << 16) + 5, UNKNOWN};

    private Edges() {
    }

    /** A new desk that has taken the text. */
    static ConicDesk desk(String text) {
        ConicDesk desk = new ConicDesk();
        Due.holds("taken: '" + text + "'", Due.text(desk, text) >= 0);
        return desk;
    }

    static int points(int p) {
        return p * p + p + 1;
    }

    /** Numbers of which none is one of a POINT or of a LINE. */
    static int[] notOfPlane(int p) {
        return new int[] {-1, points(p), -2, points(p) + 1, LOWEST, LOWEST + 1, HIGHEST - 1, HIGHEST, UNKNOWN};
    }

    /** 'conic' 0 with one number alone being not 0. */
    static String alone(int i, int value) {
        StringBuilder text = new StringBuilder("conic 0");
        for (int k = 0; k < 6; k++) {
            text.append(' ').append(k == i ? value : 0);
        }
        return text.append(';').toString();
    }

    static String repeated(String what, int n) {
        StringBuilder text = new StringBuilder();
        for (int k = 0; k < n; k++) {
            text.append(what);
        }
        return text.toString();
    }

    /** The least number above 1 that is no square modulo p, or is one (1 aside). */
    static int residue(int p, boolean square) {
        for (int n = 2; n < p; n++) {
            boolean found = false;
            for (int root = 1; root < p; root++) {
                found |= root * root % p == n;
            }
            if (found == square) {
                return n;
            }
        }
        return 1;
    }

    /** A text that marks these POINTS, in a plane of p. */
    static String marks(int p, int... points) {
        StringBuilder text = new StringBuilder("prime " + p + ";");
        for (int point : points) {
            text.append("point ").append(point).append(';');
        }
        return text.toString();
    }

    /** The numbers of a POINT or LINE of p's plane. */
    static int[] triple(int p, int number) {
        if (number < p * p) {
            return new int[] {1, number / p, number % p};
        }
        return number < p * p + p ? new int[] {0, 1, number - p * p} : new int[] {0, 0, 1};
    }

    /** What a CONIC's numbers make of a POINT, modulo p. */
    static int value(int p, int[] n, int point) {
        int[] t = triple(p, point);
        return Math.floorMod(n[0] * t[0] * t[0] + n[1] * t[1] * t[1] + n[2] * t[2] * t[2]
            + n[3] * t[1] * t[2] + n[4] * t[2] * t[0] + n[5] * t[0] * t[1], p);
    }

    /** Whether a POINT lies on a LINE, told by their numbers. */
    static boolean meet(int p, int line, int point) {
        int[] u = triple(p, line);
        int[] t = triple(p, point);
        return (u[0] * t[0] + u[1] * t[1] + u[2] * t[2]) % p == 0;
    }

    /** Numbers of CONICS of KIND 0 to 4. */
    static int[][] kinds(int p) {
        int no = residue(p, false);
        return new int[][] {{p, 0, -p, 0, 0, p}, {1, 1, 1, 2, -2, -2}, {0, 0, 0, 1, 1, 0}, {1, -no, 1 - no, -2 * no, 2, 0},
            {0, 1, 0, 0, -1, 0}};
    }

    /** 'conic' of these numbers. */
    static String conic(int conic, int... numbers) {
        StringBuilder text = new StringBuilder("conic " + conic);
        for (int number : numbers) {
            text.append(' ').append(number);
        }
        return text.append(';').toString();
    }
}
