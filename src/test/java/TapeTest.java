/** Promises 2 to 5: the tape and the TEXTS on it. */
public final class TapeTest {
    private static final int NONE = ConicDesk.NONE;

    public static void main(String[] args) {
        promise2Feed();
        promise3End();
        promise4Text();
        promise4TextStartsAnew();
        promise4TextWithAFaultLeavesAll();
        promise5FaultOfTokens();
        promise5FaultOfNumbers();
        promise5FaultOfLines();
        promise5WhichFaultIsFirst();
        Due.end("TapeTest");
    }

    private static void promise2Feed() {
        ConicDesk desk = new ConicDesk();
        for (int k = 1; k <= 25; k++) {
            Due.is("feed number " + k, desk.feed(-1, 0, 0, 0, 0), 20 * k);
        }
        Due.is("feed beyond 500", desk.feed(0, 0, 0, 0, 0), NONE);
        Due.is("nothing came", desk.count(5), 500);
        Due.is("end at 481", desk.end(481), 481);
        Due.is("feed, 19 left", desk.feed(0, 0, 0, 0, 0), NONE);
        Due.is("end at 480", desk.end(480), 480);
        Due.is("feed, 20 left", desk.feed(0, 0, 0, 0, 0), 500);
        ConicDesk other = new ConicDesk();
        // 'poin' 't 1;' 'poin' 't 2;' and blanks: of each number the highest byte is first.
        Due.is("feed", other.feed(0x706f696e, 0x7420313b, 0x706f696e, 0x7420323b, 0x20202020), 20);
        Due.is("text of these", other.text(), 2);
        Due.is("first marked", other.marked(0), 1);
        Due.is("second marked", other.marked(1), 2);
        // A byte above 127 is no letter, whatever sign its number has.
        other.feed(0xe1e2e3e4, 0x20202020, 0x20202020, 0x20202020, 0x20202020);
        Due.is("text with a byte of 225", other.text(), NONE);
        Due.is("its fault", other.fault(0), 1);
        Due.is("its place", other.fault(1), 0);
    }

    private static void promise3End() {
        ConicDesk desk = new ConicDesk();
        Due.is("end(0) of none", desk.end(0), 0);
        Due.is("end(1) of none", desk.end(1), NONE);
        desk.feed(0x7072696d, 0x6520333b, 0x7072696d, 0x6520353b, 0x21212121);
        Due.is("end(-1)", desk.end(-1), NONE);
        Due.is("end(lowest)", desk.end(Integer.MIN_VALUE), NONE);
        Due.is("end(21)", desk.end(21), NONE);
        Due.is("end(20)", desk.end(20), 20);
        Due.is("end(16)", desk.end(16), 16);
        Due.is("end(17), cut", desk.end(17), NONE);
        Due.is("16 are left", desk.count(5), 16);
        Due.is("end(8)", desk.end(8), 8);
        desk.feed(0x20202020, 0x20202020, 0x20202020, 0x20202020, 0x20202020);
        Due.is("behind the 8th", desk.text(), 1);
        Due.is("the first line alone", desk.count(0), 3);
    }

    private static void promise4Text() {
        Due.taken("", 0);
        Due.taken(" \n  ", 0);
        Due.taken("prime 3;", 1);
        Due.taken("prime7;", 1);
        Due.taken("\n prime\n007 ; point 0;\n", 2);
        Due.taken("conic 0 0 0 0 0 0 1;", 1);
        Due.taken("conic5-1-2-3-4-5-6;", 1);
        Due.taken("conic 1 99 - 99 -\n0 00 099 1;point 56;", 2);
        Due.taken("pair 1 9 0 9 0 9 0;", 1);
        ConicDesk desk = new ConicDesk();
        Due.is("text", Due.text(desk, "prime 23;point 552;point 7;conic 5 1-2 3-4 5-6;conic 5 -99 0 99 0 0 0;"
            + "pair 4 1 2 3 4 5 -6;"), 6);
        Due.is("prime", desk.count(0), 23);
        Due.is("marked", desk.count(2), 2);
        Due.is("first marked", desk.marked(0), 552);
        Due.is("second marked", desk.marked(1), 7);
        Due.numbers("the later line counts", desk, 5, -99, 0, 99, 0, 0, 0);
        // (x + 2 y + 3 z)(4 x + 5 y - 6 z)
        Due.numbers("pair", desk, 4, 4, 10, -18, 3, 6, 13);
        Due.numbers("not told of", desk, 3, 1, 0, 0, 0, 0, 0);
        Due.is("the tape is taken", desk.count(5), 0);
        Due.is("another prime unmarks", Due.text(desk, "point 1;prime 3;point 2;prime 3;prime 3;"), 5);
        Due.is("one is marked", desk.count(2), 1);
        Due.is("point 2", desk.marked(0), 2);
        Due.is("and one behind", Due.text(desk, "point 1;prime 3;point 1;prime 7;point 1;"), 5);
        StringBuilder many = new StringBuilder();
        for (int k = 0; k < 62; k++) {
            many.append("prime 7;");
        }
        Due.taken(many.toString(), 62);
    }

    private static void promise4TextStartsAnew() {
        ConicDesk desk = new ConicDesk();
        desk.prime(11);
        desk.mark(5, false);
        desk.set(2, 2, 22);
        desk.image(1);
        Due.refused("set so already", desk, desk.set(2, 2, 22), 2, 0);
        Due.is("undoable before", desk.count(4), 3);
        Due.is("text", Due.text(desk, "conic 3 0 1 0 0 0 0;"), 1);
        Due.is("prime as at first", desk.count(0), 7);
        Due.is("none marked", desk.count(2), 0);
        Due.numbers("as at first", desk, 2, 1, 0, 0, 0, 0, 0);
        Due.numbers("as told", desk, 3, 0, 1, 0, 0, 0, 0);
        Due.is("why stays", desk.why(0), 2);
        Due.is("nothing can be undone", desk.undo(), NONE);
        Due.is("as counted", desk.count(4), 0);
        Due.holds("images stay", desk.again(1));
        Due.is("as it was", desk.count(0), 11);
    }

    private static void promise4TextWithAFaultLeavesAll() {
        ConicDesk desk = new ConicDesk();
        desk.prime(5);
        desk.mark(9, false);
        desk.set(0, 1, 4);
        Due.is("text", Due.text(desk, "prime 3;conic 0 2 2 2 2 2 2;point 1;x"), NONE);
        Due.is("fault", desk.fault(0), 1);
        Due.is("place", desk.fault(1), 35 + 1);
        Due.is("the tape is empty", desk.count(5), 0);
        Due.is("prime", desk.count(0), 5);
        Due.is("marked", desk.marked(0), 9);
        Due.numbers("conic", desk, 0, 1, 4, 0, 0, 0, 0);
        Due.is("why", desk.why(0), 0);
        Due.is("undo", desk.undo(), 2);
        Due.is("fault stays", desk.fault(0), 1);
        Due.is("a new text", Due.text(desk, "prime 3;"), 1);
        Due.is("no fault", desk.fault(0), 0);
        Due.is("no place", desk.fault(1), NONE);
    }

    private static void promise5FaultOfTokens() {
        ConicDesk desk = new ConicDesk();
        Due.is("fault(2)", desk.fault(2), NONE);
        Due.is("fault(-1)", desk.fault(-1), NONE);
        Due.faulty("line 0;", 1, 0);
        Due.faulty("prim 3;", 1, 0);
        Due.faulty(" primes 3;", 1, 1);
        Due.faulty("Prime 3;", 1, 0);
        Due.faulty("primea 3;", 1, 0);
        Due.faulty("primez 3;", 1, 0);
        Due.faulty("prime`3;", 1, 5);
        Due.faulty("prime{3;", 1, 5);
        Due.faulty("prime /;", 1, 6);
        Due.faulty("prime :;", 1, 6);
        Due.faulty("primE 3;", 1, 0);
        Due.faulty("prime", 1, 5);
        Due.faulty("prime  \n", 1, 8);
        Due.faulty("prime ;", 1, 6);
        Due.faulty("prime - 3;", 1, 6);
        Due.faulty("prime 3", 1, 7);
        Due.faulty("prime 3 ", 1, 8);
        Due.faulty("prime 3 3;", 1, 8);
        Due.faulty("prime 3;;", 1, 8);
        Due.faulty("prime 3;3", 1, 8);
        Due.faulty("prime 0003;", 1, 6);
        Due.faulty("prime 3\t;", 1, 7);
        Due.faulty("point conic", 1, 6);
        Due.faulty("conic 0 1 2 3 4 5;", 1, 17);
        Due.faulty("conic 0 1 2 3 4 5 6 7;", 1, 20);
        Due.faulty("conic 0 1 2 3 4 5 - ;", 1, 20);
        Due.faulty("conic 0 - - 1 2 3 4 5 6;", 1, 10);
        Due.faulty("conic - 0 1 2 3 4 5 6;", 1, 6);
        Due.faulty("conic 0 1 2 3 4 5 a;", 1, 18);
        Due.faulty("conic 0 1000 2 3 4 5 6;", 1, 8);
        Due.faulty("conic 0 -", 1, 9);
        Due.faulty("pair 0 1 2 3 4 5 6", 1, 18);
        Due.faulty("\u00e9", 1, 0);
        Due.faulty("prime 3;\r", 1, 8);
    }

    private static void promise5FaultOfNumbers() {
        for (int n = 0; n < 30; n++) {
            boolean can = n == 3 || n == 5 || n == 7 || n == 11 || n == 13 || n == 17 || n == 19 || n == 23;
            if (can) {
                Due.taken("prime " + n + ";", 1);
            } else {
                Due.faulty("prime " + n + ";", 2, 6);
            }
        }
        Due.faulty("prime 997;", 2, 6);
        Due.taken("point 56;", 1);
        Due.faulty("point 57;", 2, 6);
        Due.faulty("prime 3;point 13;", 2, 14);
        Due.taken("prime 3;point 12;", 2);
        Due.taken("prime 23;point 552;", 2);
        Due.faulty("prime 23;point 553;", 2, 15);
        Due.faulty("conic 6 1 1 1 1 1 1;", 2, 6);
        Due.faulty("pair 6 1 1 1 1 1 1;", 2, 5);
        Due.faulty("pair 999;", 2, 5);
        Due.faulty("conic 0 100 0 0 0 0 0;", 2, 8);
        Due.faulty("conic 0 -100 0 0 0 0 0;", 2, 9);
        Due.faulty("conic 0 1 0 0 0 0 999;", 2, 18);
        Due.faulty("pair 0 0 0 0 0 0 100;", 2, 17);
        Due.taken("conic 0 -99 099 0 0 0 0;", 1);
    }

    private static void promise5FaultOfLines() {
        Due.faulty("conic 0 0 0 0 0 0 0;", 3, 0);
        Due.faulty("conic 0 -0 0 -00 0 0 0;", 3, 0);
        Due.faulty("prime 3; pair 0 0 0 0 1 2 3;", 3, 9);
        Due.faulty("pair 0 1 2 3 0 0 0;", 3, 0);
        Due.taken("pair 0 99 0 0 1 0 0;", 1);
        Due.faulty("pair 0 10 0 0 10 0 0;", 3, 0);
        Due.faulty("pair 0 0 10 0 0 -10 0;", 3, 0);
        Due.faulty("pair 0 0 0 10 0 0 10;", 3, 0);
        Due.faulty("pair 0 0 7 8 0 7 8;", 3, 0);
        Due.faulty("pair 0 7 0 8 7 0 8;", 3, 0);
        Due.faulty("pair 0 7 8 0 7 8 0;", 3, 0);
        Due.taken("pair 0 7 7 0 7 7 0;", 1);
        Due.faulty("point 3;point 3;", 3, 8);
        Due.taken("point 0;point 1;point 2;point 3;point 4;point 5;point 6;point 7;", 8);
        Due.faulty("point 0;point 1;point 2;point 3;point 4;point 5;point 6;point 7;point 8;", 3, 64);
        Due.faulty("point 0;point 1;point 2;point 3;point 4;point 5;point 6;point 7;\npoint 0;", 3, 65);
        Due.taken("point 3;prime 5;point 3;", 3);
        Due.faulty("point 3;prime 7;point 3;", 3, 16);
    }

    private static void promise5WhichFaultIsFirst() {
        // What is known behind the ';' alone is not met before it.
        Due.faulty("point 3;point 3", 1, 15);
        Due.faulty("conic 0 0 0 0 0 0 0 0;", 1, 20);
        Due.faulty("conic 0 0 0 0 0 0 0; !", 3, 0);
        Due.faulty("conic 0 0 0 0 0 0 100;", 2, 18);
        Due.faulty("conic 9 0 0 0 0 0 1000;", 2, 6);
        Due.faulty("conic 0 100 1000 a", 2, 8);
        // Of one place the least: where no NUMBER can stand, one that can't be is 1.
        Due.faulty("point 0 999;", 1, 8);
        Due.faulty("point 0;999;", 1, 8);
        Due.faulty("prime 1000;", 1, 6);
    }
}
