/** Promises 33 and 34: images of all that is, and all as an image has it. */
public final class ImagesTest {
    private static final int NONE = ConicDesk.NONE;

    public static void main(String[] args) {
        promise33Image();
        promise34Again();
        promise34NoneSuch();
        Due.end("ImagesTest");
    }

    private static void promise33Image() {
        ConicDesk desk = new ConicDesk();
        Due.is("set", desk.set(0, 0, 5), 0);
        Due.fails("image(-1)", desk.image(-1));
        Due.fails("image(3)", desk.image(3));
        Due.fails("image(highest)", desk.image(Integer.MAX_VALUE));
        for (int k = 0; k < 3; k++) {
            Due.holds("image(" + k + ")", desk.image(k));
            Due.is("set", desk.set(0, 0, 6 + k), 0);
        }
        Due.is("what can be undone is left", desk.count(4), 4);
        for (int k = 0; k < 3; k++) {
            Due.holds("again(" + k + ")", desk.again(k));
            Due.is("each has its own", desk.conic(0, 10), 5 + k);
        }
        Due.holds("taken anew", desk.image(0));
        Due.holds("the image next to it", desk.again(1));
        Due.is("as it was", desk.conic(0, 10), 6);
        Due.holds("the new one", desk.again(0));
        Due.is("as it was", desk.conic(0, 10), 7);
    }

    private static void promise34Again() {
        ConicDesk desk = new ConicDesk();
        Due.is("text", Due.text(desk, "prime 11;point 132;point 4;conic 2 9 8 7 6 5 4;"), 4);
        Due.is("a fault", Due.text(desk, "prime 4;"), NONE);
        Due.is("turn", desk.turn(0, 0), 5);
        Due.feed(desk, "point 9;");
        Due.holds("image", desk.image(2));
        Due.is("text behind the tape's bytes", Due.text(desk, "prime 3;point 1;"), 3);
        Due.is("no fault now", desk.fault(0), 0);
        Due.is("text", Due.text(desk, "prime 3;point 1;"), 2);
        Due.is("set", desk.set(2, 2, 2), 0);
        Due.is("undoable", desk.count(4), 1);
        Due.holds("again", desk.again(2));
        Due.is("prime", desk.count(0), 11);
        Due.is("marked", desk.count(2), 2);
        Due.is("first marked", desk.marked(0), 132);
        Due.is("second marked", desk.marked(1), 4);
        Due.numbers("conic", desk, 2, 9, 8, 7, 6, 5, 4);
        Due.is("fault", desk.fault(0), 2);
        Due.is("place", desk.fault(1), 6);
        Due.is("why(0)", desk.why(0), 5);
        Due.is("why(1)", desk.why(1), 7);
        Due.is("nothing can be undone", desk.undo(), NONE);
        Due.is("the tape has its bytes", desk.count(5), 8);
        Due.is("and they are the same", desk.text(), 1);
        Due.is("as told", desk.marked(0), 9);
        Due.holds("again, the image being there yet", desk.again(2));
        Due.is("prime", desk.count(0), 11);
    }

    private static void promise34NoneSuch() {
        ConicDesk desk = new ConicDesk();
        Due.is("set", desk.set(0, 0, 5), 0);
        Due.holds("image(1)", desk.image(1));
        Due.is("set", desk.set(0, 0, 6), 0);
        int[] wrong = {-1, 0, 2, 3, Integer.MIN_VALUE, Integer.MAX_VALUE};
        for (int k : wrong) {
            Due.fails("again(" + k + ")", desk.again(k));
        }
        Due.is("all is as it was", desk.conic(0, 10), 6);
        Due.is("and can be undone", desk.undo(), 1);
    }
}
