/** Promises 6 to 14: the acts, why one is REFUSED, and what undo gives back. */
public final class ActsTest {
    private static final int NONE = ConicDesk.NONE;
    private static final int LOWEST = Integer.MIN_VALUE;
    private static final int HIGHEST = Integer.MAX_VALUE;

    public static void main(String[] args) {
        promise6Prime();
        promise7Set();
        promise8Sum();
        promise9Turn();
        promise10Twist();
        promise11Through();
        promise12Mark();
        promise13Why();
        promise14Undo();
        promise14UndoOfEachAct();
        Due.end("ActsTest");
    }

    private static void promise6Prime() {
        ConicDesk desk = new ConicDesk();
        int[] wrong = {0, 1, 2, 4, 6, 8, 9, 15, 21, 22, 24, 29, -3, -7, LOWEST, HIGHEST};
        for (int p : wrong) {
            Due.refused("prime(" + p + ")", desk, desk.prime(p), 1, 0);
        }
        Due.refused("prime(7) again", desk, desk.prime(7), 2, 0);
        Due.is("nothing done", desk.count(4), 0);
        int[] right = {3, 5, 7, 11, 13, 17, 19, 23};
        for (int p : right) {
            desk.mark(0, false);
            Due.refused("prime(" + p + ")", desk, desk.prime(p), 0, 0);
            Due.is("the prime", desk.count(0), p);
            Due.is("the points", desk.count(1), p * p + p + 1);
            Due.is("none is marked", desk.count(2), 0);
        }
        desk.mark(0, false);
        Due.refused("so already", desk, desk.prime(23), 2, 0);
        Due.is("marked yet", desk.count(2), 1);
    }

    private static void promise7Set() {
        ConicDesk desk = new ConicDesk();
        for (int i = 0; i < 6; i++) {
            Due.refused("set number " + i, desk, desk.set(4, i, 90 + i), 0, 0);
        }
        Due.numbers("set", desk, 4, 90, 91, 92, 93, 94, 95);
        Due.refused("conic -1", desk, desk.set(-1, 0, 5), 1, 0);
        Due.refused("conic 6", desk, desk.set(6, 0, 5), 1, 0);
        Due.refused("number -1", desk, desk.set(0, -1, 5), 1, 0);
        Due.refused("number 6", desk, desk.set(0, 6, 5), 1, 0);
        Due.refused("value 100", desk, desk.set(0, 0, 100), 1, 0);
        Due.refused("value -100", desk, desk.set(0, 0, -100), 1, 0);
        Due.refused("value 99", desk, desk.set(0, 0, 99), 0, 0);
        Due.refused("value -99", desk, desk.set(0, 0, -99), 0, 0);
        Due.refused("so already", desk, desk.set(0, 0, -99), 2, 0);
        Due.refused("already 0", desk, desk.set(0, 1, 0), 2, 0);
        Due.refused("all would be 0", desk, desk.set(0, 0, 0), 3, 0);
        Due.numbers("left", desk, 0, -99, 0, 0, 0, 0, 0);
    }

    private static void promise8Sum() {
        ConicDesk desk = new ConicDesk();
        Due.is("text", Due.text(desk, "conic 0 1 2 3 4 5 6;conic 1 6 5 4 3 2 1;conic 2 9 0 0 0 0 -9;"), 3);
        Due.refused("sum", desk, desk.sum(3, 0, 2, 1, -3), 0, 0);
        Due.numbers("sum", desk, 3, -16, -11, -6, -1, 4, 9);
        Due.refused("sum of one", desk, desk.sum(0, 0, 5, 0, -4), 0, 0);
        Due.numbers("the same, and an act", desk, 0, 1, 2, 3, 4, 5, 6);
        Due.is("two acts", desk.count(4), 2);
        Due.refused("sum onto another", desk, desk.sum(1, 0, 1, 1, 1), 0, 0);
        Due.numbers("sevens", desk, 1, 7, 7, 7, 7, 7, 7);
        int[][] wrong = {{-1, 0, 1, 0, 1}, {6, 0, 1, 0, 1}, {0, 6, 1, 0, 1}, {0, -1, 1, 0, 1}, {0, 0, 1, 6, 1},
            {0, 0, 1, -1, 1}, {0, 0, 100, 0, 0}, {0, 0, -100, 0, 0}, {0, 0, 0, 0, 100}, {0, 0, 0, 0, LOWEST}};
        for (int[] w : wrong) {
            Due.refused("sum that can't be", desk, desk.sum(w[0], w[1], w[2], w[3], w[4]), 1, 0);
        }
        Due.refused("all 0", desk, desk.sum(0, 1, 0, 2, 0), 3, 0);
        Due.refused("one less itself", desk, desk.sum(0, 1, 99, 1, -99), 3, 0);
        Due.refused("99 of 9", desk, desk.sum(5, 2, 11, 2, 0), 0, 0);
        Due.numbers("99", desk, 5, 99, 0, 0, 0, 0, -99);
        Due.refused("108 of 9", desk, desk.sum(5, 2, 6, 2, 6), 4, 0);
        Due.refused("-108 of -9", desk, desk.sum(5, 2, -6, 2, -6), 4, 0);
        Due.refused("far beyond", desk, desk.sum(5, 5, 99, 5, 99), 4, 0);
        Due.numbers("left", desk, 5, 99, 0, 0, 0, 0, -99);
    }

    private static void promise9Turn() {
        ConicDesk desk = new ConicDesk();
        Due.is("text", Due.text(desk, "conic 0 1 2 3 1 1 -1;conic 1 7 -7 0 0 14 77;conic 2 8 7 0 0 0 0;"
            + "pair 3 1 1 0 1 2 0;conic 4 1 1 0 0 0 0;"), 5);
        Due.refused("no such conic", desk, desk.turn(6, 0), 1, 0);
        Due.refused("no such conic", desk, desk.turn(0, 6), 1, 0);
        Due.refused("no such conic", desk, desk.turn(-1, 0), 1, 0);
        Due.refused("no such conic", desk, desk.turn(0, NONE), 1, 0);
        Due.refused("of kind 0", desk, desk.turn(5, 1), 5, 6);
        Due.refused("of kind 1", desk, desk.turn(5, 2), 5, 7);
        Due.refused("of kind 2", desk, desk.turn(5, 3), 5, 8);
        // xx + yy is 0 for no y over x: -1 is no square modulo 7.
        Due.refused("of kind 3", desk, desk.turn(5, 4), 5, 9);
        Due.numbers("left", desk, 5, 1, 0, 0, 0, 0, 0);
        Due.refused("of kind 4", desk, desk.turn(5, 0), 0, 0);
        // 24 - 1, 12 - 1, 8 - 1, 2 (-1 - 2), 2 (-1 - 4), 2 (1 + 6)
        Due.numbers("dual", desk, 5, 2, 4, 0, 1, 4, 0);
        Due.refused("onto itself", desk, desk.turn(0, 0), 0, 0);
        Due.numbers("dual", desk, 0, 2, 4, 0, 1, 4, 0);
    }

    private static void promise10Twist() {
        ConicDesk desk = new ConicDesk();
        Due.is("text", Due.text(desk, "conic 0 1 2 3 4 5 6;conic 1 3 3 7 2 2 1;conic 2 5 8 8 1 4 4;"
            + "conic 3 0 1 1 1 0 0;conic 4 50 0 0 0 0 0;"), 5);
        Due.refused("how 0", desk, desk.twist(0, 0), 0, 0);
        Due.numbers("x and y", desk, 0, 2, 1, 3, 5, 4, 6);
        Due.refused("how 0, back", desk, desk.twist(0, 0), 0, 0);
        Due.refused("how 1", desk, desk.twist(0, 1), 0, 0);
        Due.numbers("y and z", desk, 0, 1, 3, 2, 4, 6, 5);
        Due.refused("how 1, back", desk, desk.twist(0, 1), 0, 0);
        Due.refused("how 2", desk, desk.twist(0, 2), 0, 0);
        // 1 (x + y)(x + y) + 2 yy + 3 zz + 4 yz + 5 z (x + y) + 6 (x + y) y
        Due.numbers("x and y together", desk, 0, 1, 9, 3, 9, 5, 8);
        Due.refused("no such conic", desk, desk.twist(6, 0), 1, 0);
        Due.refused("no such conic", desk, desk.twist(-1, 0), 1, 0);
        Due.refused("no such how", desk, desk.twist(0, 3), 1, 0);
        Due.refused("no such how", desk, desk.twist(0, -1), 1, 0);
        Due.refused("how 0, so already", desk, desk.twist(1, 0), 2, 0);
        Due.refused("how 1, so already", desk, desk.twist(2, 1), 2, 0);
        Due.refused("how 2, so already", desk, desk.twist(3, 2), 2, 0);
        Due.refused("how 2, beyond", desk, desk.twist(4, 2), 4, 0);
        Due.numbers("left", desk, 4, 50, 0, 0, 0, 0, 0);
    }

    private static void promise11Through() {
        ConicDesk desk = new ConicDesk();
        Due.refused("no such conic", desk, desk.through(6), 1, 0);
        Due.refused("no such conic", desk, desk.through(-1), 1, 0);
        Due.refused("free 6", desk, desk.through(0), 10, 11);
        // (1:0:0) (0:1:0) (0:0:1) (1:1:1) leave yz, zx, xy of sum 0; (1:2:3): 6 f + 3 g + 2 h = 0.
        int[] points = {0, 49, 56, 8, 17};
        for (int point : points) {
            Due.refused("free above 1", desk, desk.through(0), 10, 11);
            Due.is("mark " + point, desk.mark(point, false), 0);
        }
        Due.refused("free 1", desk, desk.through(5), 0, 0);
        // f = 1: 6 + 3 g + 2 h = 0, g + h = -1: g = -4, h = 3.
        Due.numbers("through five", desk, 5, 0, 0, 0, 1, 3, 3);
        Due.is("mark a sixth one off it", desk.mark(7, false), 0);
        Due.refused("free 0", desk, desk.through(4), 10, 12);
        Due.is("unmark it", desk.mark(7, true), 0);
        Due.is("set the conic", desk.sum(0, 5, 2, 5, 0), 0);
        Due.refused("again", desk, desk.through(0), 0, 0);
        Due.numbers("the same", desk, 0, 0, 0, 0, 1, 3, 3);
    }

    private static void promise12Mark() {
        ConicDesk desk = new ConicDesk();
        Due.refused("no such point", desk, desk.mark(57, false), 1, 0);
        Due.refused("no such point", desk, desk.mark(-1, false), 1, 0);
        Due.refused("no such point", desk, desk.mark(57, true), 1, 0);
        Due.refused("not marked", desk, desk.mark(5, true), 2, 0);
        for (int k = 0; k < 8; k++) {
            Due.refused("mark", desk, desk.mark(56 - 7 * k, false), 0, 0);
        }
        Due.refused("so already", desk, desk.mark(56, false), 2, 0);
        Due.refused("eight are marked", desk, desk.mark(0, false), 3, 0);
        Due.refused("no such point", desk, desk.mark(57, false), 1, 0);
        Due.refused("unmark", desk, desk.mark(42, true), 0, 0);
        Due.is("seven", desk.count(2), 7);
        int[] left = {56, 49, 35, 28, 21, 14, 7, NONE};
        for (int k = 0; k < left.length; k++) {
            Due.is("marked(" + k + ")", desk.marked(k), left[k]);
        }
        Due.refused("unmarked already", desk, desk.mark(42, true), 2, 0);
        Due.refused("an eighth one", desk, desk.mark(42, false), 0, 0);
        Due.is("it came last", desk.marked(7), 42);
        Due.is("prime 3", desk.prime(3), 0);
        Due.refused("beyond the plane", desk, desk.mark(13, false), 1, 0);
        Due.refused("the plane's last", desk, desk.mark(12, false), 0, 0);
    }

    private static void promise13Why() {
        ConicDesk desk = new ConicDesk();
        Due.is("why(2)", desk.why(2), NONE);
        Due.is("why(-1)", desk.why(-1), NONE);
        Due.refused("turn", desk, desk.turn(0, 0), 5, 7);
        desk.conic(0, 1);
        desk.image(0);
        desk.undo();
        Due.is("questions leave it", desk.why(0), 5);
        Due.is("questions leave it", desk.why(1), 7);
        Due.refused("mark", desk, desk.mark(0, false), 0, 0);
        Due.refused("mark", desk, desk.mark(0, false), 2, 0);
        Due.is("undo of the mark", desk.undo(), 0);
        Due.is("undo is no act", desk.why(0), 2);
        Due.refused("through", desk, desk.through(0), 10, 11);
        Due.refused("set", desk, desk.set(0, 0, 0), 3, 0);
    }

    private static void promise14Undo() {
        ConicDesk desk = new ConicDesk();
        Due.is("none can be", desk.undo(), NONE);
        for (int k = 1; k <= 10; k++) {
            Due.is("set", desk.set(0, 1, k), 0);
            Due.is("so already", desk.set(0, 1, k), 2);
            Due.is("undoable", desk.count(4), Math.min(k, 8));
        }
        for (int k = 9; k >= 2; k--) {
            Due.is("undo", desk.undo(), k - 2);
            Due.is("as before", desk.conic(0, 11), k);
        }
        Due.is("none can be", desk.undo(), NONE);
        Due.is("the tenth", desk.conic(0, 11), 2);
        Due.is("set", desk.set(0, 1, 50), 0);
        Due.is("set", desk.set(0, 1, 51), 0);
        Due.is("undo", desk.undo(), 1);
        Due.is("set", desk.set(0, 1, 52), 0);
        Due.is("undo", desk.undo(), 1);
        Due.is("50 yet", desk.conic(0, 11), 50);
        Due.is("undo", desk.undo(), 0);
        Due.is("2 yet", desk.conic(0, 11), 2);
    }

    private static void promise14UndoOfEachAct() {
        ConicDesk desk = new ConicDesk();
        Due.is("text", Due.text(desk, "point 5;point 6;conic 0 1 2 3 1 1 -1;point 13;point 20;point 55;"), 6);
        Due.is("feed", desk.feed(0, 0, 0, 0, 0), 20);
        Due.is("mark", desk.mark(5, true), 0);
        Due.is("mark", desk.mark(5, false), 0);
        Due.is("sum", desk.sum(1, 0, 2, 0, 0), 0);
        Due.is("turn", desk.turn(1, 0), 0);
        Due.is("twist", desk.twist(0, 0), 0);
        Due.is("through", desk.through(0), 0);
        Due.is("prime", desk.prime(3), 0);
        Due.is("undo the prime", desk.undo(), 6);
        Due.is("prime 7", desk.count(0), 7);
        Due.is("5 came last", desk.marked(4), 5);
        Due.is("undo through", desk.undo(), 5);
        Due.numbers("twisted", desk, 0, 2, 1, 3, 1, 1, -1);
        Due.is("undo the twist", desk.undo(), 4);
        Due.numbers("untwisted", desk, 0, 1, 2, 3, 1, 1, -1);
        Due.is("undo the turn", desk.undo(), 3);
        Due.numbers("summed", desk, 1, 2, 4, 6, 2, 2, -2);
        Due.is("undo the sum", desk.undo(), 2);
        Due.numbers("as at first", desk, 1, 1, 0, 0, 0, 0, 0);
        Due.is("undo the mark", desk.undo(), 1);
        Due.is("four are marked", desk.count(2), 4);
        Due.is("undo the unmark", desk.undo(), 0);
        Due.is("5 came first", desk.marked(0), 5);
        Due.is("the tape is no act's", desk.count(5), 20);
    }
}
