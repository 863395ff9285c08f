/** Promises 30 to 32: the FAMILY through the MARKED POINTS. */
public final class FamilyTest {
    private static final int NONE = ConicDesk.NONE;

    public static void main(String[] args) {
        promise30Only();
        promise31Freed();
        promise32Useful();
        Due.end("FamilyTest");
    }

    private static ConicDesk desk(String text, int lines) {
        ConicDesk desk = new ConicDesk();
        Due.is("text of '" + text + "'", Due.text(desk, text), lines);
        return desk;
    }

    private static void promise30Only() {
        ConicDesk desk = desk("point 0;point 49;point 56;point 8;", 4);
        Due.is("free 2", desk.only(0), NONE);
        Due.is("mark (1:2:3)", desk.mark(17, false), 0);
        int[] numbers = {0, 0, 0, 1, 3, 3};
        for (int i = 0; i < 6; i++) {
            Due.is("only(" + i + ")", desk.only(i), numbers[i]);
        }
        Due.is("only(-1)", desk.only(-1), NONE);
        Due.is("only(6)", desk.only(6), NONE);
        Due.is("only(highest)", desk.only(Integer.MAX_VALUE), NONE);
        Due.is("mark one off it", desk.mark(1, false), 0);
        Due.is("free 0", desk.only(3), NONE);
        // Eight of (1 : k : kk) and (0 : 0 : 1) lie on yy = zx.
        ConicDesk whole = desk("point 0;point 8;point 18;point 23;point 30;point 39;point 43;point 56;", 8);
        int[] parabola = {0, 1, 0, 0, 6, 0};
        for (int i = 0; i < 6; i++) {
            Due.is("only(" + i + ") of eight", whole.only(i), parabola[i]);
        }
        // Four in a line and one more leave 2; then one off the line tells two lines.
        ConicDesk lines = desk("point 0;point 1;point 2;point 3;point 7;", 5);
        Due.is("free 2", lines.only(0), NONE);
        Due.is("mark", lines.mark(14, false), 0);
        int[] pair = {0, 0, 0, 1, 0, 0};
        for (int i = 0; i < 6; i++) {
            Due.is("only(" + i + ") of lines", lines.only(i), pair[i]);
        }
    }

    private static void promise31Freed() {
        ConicDesk desk = desk("point 0;point 1;point 2;", 3);
        Due.is("free", desk.count(3), 3);
        Due.is("a fourth in line", desk.freed(3), 3);
        Due.is("one off it", desk.freed(8), 2);
        Due.is("marked", desk.freed(1), NONE);
        Due.is("none such", desk.freed(57), NONE);
        Due.is("none such", desk.freed(-1), NONE);
        Due.is("nothing is marked by it", desk.count(2), 3);
        ConicDesk whole = desk("point 0;point 8;point 18;point 23;point 30;point 39;point 43;point 56;", 8);
        Due.is("a ninth one", whole.freed(1), 0);
        ConicDesk none = desk("point 0;point 49;point 56;point 8;point 17;point 1;", 6);
        Due.is("free 0 stays", none.freed(30), 0);
        Due.is("free of a new one", new ConicDesk().freed(30), 5);
    }

    private static void promise32Useful() {
        ConicDesk desk = new ConicDesk();
        Due.is("all", desk.useful(), 57);
        Due.is("mark", desk.mark(0, false), 0);
        Due.is("all but it", desk.useful(), 56);
        Due.is("mark", desk.mark(1, false), 0);
        Due.is("two", desk.useful(), 55);
        Due.is("mark", desk.mark(2, false), 0);
        Due.is("the whole line is told", desk.useful(), 49);
        Due.is("mark", desk.mark(8, false), 0);
        Due.is("the line and a point", desk.useful(), 48);
        Due.is("mark", desk.mark(16, false), 0);
        Due.is("two lines", desk.useful(), 42);
        Due.is("mark", desk.mark(11, false), 0);
        Due.is("no conic is left", desk.useful(), 0);
        Due.is("twenty-three", desk.prime(23), 0);
        Due.is("all", desk.useful(), 553);
    }
}
