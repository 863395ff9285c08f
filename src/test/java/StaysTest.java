import java.util.ArrayList;
import java.util.List;
import java.util.function.Supplier;
import java.util.function.ToIntBiFunction;
import java.util.function.ToIntFunction;

/**
 * What a refused call, a call that there is nothing for, and a question leave as it was: of two like desks
 * one is called so, and both answer alike then, whatever comes behind.
 */
public final class StaysTest {
    private static final int NONE = Edges.NONE;
    private static final int UNKNOWN = Edges.UNKNOWN;
    private static final int LOWEST = Edges.LOWEST;
    private static final int HIGHEST = Edges.HIGHEST;

    private StaysTest() {
    }

    public static void main(String[] args) {
        refusedActs();
        refusedActsOfFewMarks();
        refusedActsOfANewDesk();
        callsForNothing();
        questions();
        faultyTexts();
        whateverWasAskedBefore();
        Due.end("StaysTest");
    }

    // ---- desks

    /** CONIC k is of KIND k over 11, for k 0 to 4; eight are MARKED, eight acts can be undone, two images are there. */
    private static ConicDesk full() {
        ConicDesk desk = withMarks(0, 1, 2, 13, 25);
        desk.image(0);
        for (int point : new int[] {132, 121, 60}) {
            Due.is("mark", desk.mark(point, false), 0);
        }
        for (int k = 0; k < 6; k++) {
            Due.is("set", desk.set(5, k % 2, 20 + k), 0);
        }
        desk.image(2);
        Due.is("why", desk.turn(5, 0), 5);
        Due.feed(desk, "point 9;conic 5 1 2 3 4 5 6;");
        return desk;
    }

    private static ConicDesk withMarks(int... points) {
        StringBuilder text = new StringBuilder(Edges.marks(11, points));
        int[][] kinds = Edges.kinds(11);
        for (int kind = 0; kind < 5; kind++) {
            text.append(Edges.conic(kind, kinds[kind]));
        }
        ConicDesk desk = Edges.desk(text.append("conic 5 99 -99 1 2 3 4;").toString());
        Due.is("a fault", Due.text(desk, "prime 3; prime 9;"), NONE);
        return desk;
    }

    /** Three are MARKED, in a line; nothing can be undone. */
    private static ConicDesk few() {
        ConicDesk desk = withMarks(0, 1, 2);
        desk.image(1);
        Due.feed(desk, "prime 3;x");
        return desk;
    }

    // ---- what both answer

    private static List<Integer> told(ConicDesk desk, boolean why, boolean fault) {
        List<Integer> told = new ArrayList<>();
        for (int what = 0; what < 8; what++) {
            told.add(desk.count(what));
        }
        for (int conic = 0; conic < 6; conic++) {
            for (int what = 0; what < 16; what++) {
                told.add(desk.conic(conic, what));
            }
        }
        for (int k = 0; k < 8; k++) {
            told.add(desk.marked(k));
        }
        for (int i = 0; i < 6; i++) {
            told.add(desk.only(i));
        }
        told.add(desk.useful());
        told.add(desk.pencil(3, 4, 0));
        told.add(desk.passing(4, 5, 7));
        for (int level = 0; level < 2; level++) {
            told.add(why ? desk.why(level) : NONE);
            told.add(fault ? desk.fault(level) : NONE);
        }
        return told;
    }

    private static List<Integer> undone(ConicDesk desk) {
        List<Integer> told = new ArrayList<>();
        for (int k = 0; k < 9; k++) {
            told.add(desk.undo());
            told.add(desk.count(0));
            told.add(desk.count(4));
            for (int i = 0; i < 8; i++) {
                told.add(desk.marked(i));
            }
            for (int conic = 0; conic < 6; conic++) {
                for (int i = 0; i < 3; i++) {
                    told.add(desk.conic(conic, 10 + i));
                }
            }
        }
        return told;
    }

    private static List<Integer> taken(ConicDesk desk, boolean why) {
        List<Integer> told = new ArrayList<>();
        told.add(desk.text());
        told.addAll(told(desk, why, true));
        return told;
    }

    /** With an image that is there WHY and the FAULT are the image's own. */
    private static List<Integer> again(ConicDesk desk, int k, boolean why, boolean fault) {
        List<Integer> told = new ArrayList<>();
        boolean there = desk.again(k);
        told.add(there ? 1 : 0);
        told.addAll(told(desk, why || there, fault || there));
        told.addAll(taken(desk, why || there));
        return told;
    }

    /** Acts and questions behind: what they answer, and what is then. */
    private static List<Integer> goneOn(ConicDesk desk, boolean fault) {
        List<Integer> told = new ArrayList<>();
        told.add(desk.sum(0, 5, 1, 4, -1));
        told.add(desk.mark(25, true));
        told.add(desk.mark(77, false));
        told.add(desk.feed(HIGHEST, LOWEST, 0x7072696d, 0x6520353b, 1));
        told.add(desk.twist(5, 2));
        told.add(desk.why(0));
        told.add(desk.through(3));
        told.add(desk.why(1));
        told.addAll(told(desk, true, fault));
        told.addAll(undone(desk));
        return told;
    }

    private interface Behind {
        List<Integer> told(ConicDesk desk);
    }

    /** The call answers as is due, and of two like desks one is like the other yet (but for WHY, if it is an act). */
    private static void stays(String call, Supplier<ConicDesk> made, ToIntFunction<ConicDesk> called, int due, boolean why) {
        List<Behind> rows = List.of(desk -> told(desk, why, true), StaysTest::undone, desk -> again(desk, 0, why, true),
            desk -> again(desk, 1, why, true), desk -> again(desk, 2, why, true), desk -> taken(desk, why), desk -> goneOn(desk, true));
        for (int k = 0; k < rows.size(); k++) {
            ConicDesk one = made.get();
            ConicDesk other = made.get();
            Due.is(call, called.applyAsInt(one), due);
            alike(call + ", row " + k, rows.get(k).told(one), rows.get(k).told(other));
        }
    }

    private static void alike(String call, List<Integer> got, List<Integer> want) {
        Due.is(call + " behind it, answers", got.size(), want.size());
        for (int i = 0; i < want.size(); i++) {
            Due.is(call + " behind it, answer " + i, got.get(i), want.get(i));
        }
    }

    private static void refused(String call, Supplier<ConicDesk> made, ToIntFunction<ConicDesk> called, int reason, int cause) {
        stays(call, made, called, reason, false);
        ConicDesk desk = made.get();
        Due.refused(call, desk, called.applyAsInt(desk), reason, cause);
        Due.is(call + ", once more", called.applyAsInt(desk), reason);
        Due.is("an act behind " + call, desk.set(1, 5, 77), 0);
        Due.is("why(0) behind it", desk.why(0), 0);
        Due.is("why(1) behind it", desk.why(1), 0);
    }

    private static void asked(String call, Supplier<ConicDesk> made, ToIntFunction<ConicDesk> called, int due) {
        stays(call, made, called, due, true);
    }

    private static void refusedActs() {
        Due.sentence("Terms 2", "REFUSED", "all else stays: eight being MARKED, eight ACTS to be UNDONE, two images");
        refused("prime(9)", StaysTest::full, desk -> desk.prime(9), 1, 0);
        refused("prime(lowest)", StaysTest::full, desk -> desk.prime(LOWEST), 1, 0);
        refused("prime(11)", StaysTest::full, desk -> desk.prime(11), 2, 0);
        refused("set of no conic", StaysTest::full, desk -> desk.set(6, 0, 1), 1, 0);
        refused("set of no number", StaysTest::full, desk -> desk.set(5, 6, 1), 1, 0);
        refused("set beyond", StaysTest::full, desk -> desk.set(5, 0, 100), 1, 0);
        refused("set so already", StaysTest::full, desk -> desk.set(5, 2, 1), 2, 0);
        refused("sum to no conic", StaysTest::full, desk -> desk.sum(-1, 0, 1, 1, 1), 1, 0);
        refused("sum of no conic", StaysTest::full, desk -> desk.sum(0, 6, 1, 1, 1), 1, 0);
        refused("sum of x beyond", StaysTest::full, desk -> desk.sum(0, 0, -100, 1, 1), 1, 0);
        refused("sum of 0", StaysTest::full, desk -> desk.sum(5, 0, 0, 1, 0), 3, 0);
        refused("sum beyond", StaysTest::full, desk -> desk.sum(0, 5, 99, 1, 1), 4, 0);
        refused("turn to no conic", StaysTest::full, desk -> desk.turn(HIGHEST, 4), 1, 0);
        refused("turn of kind 0", StaysTest::full, desk -> desk.turn(5, 0), 5, 6);
        refused("turn of kind 1", StaysTest::full, desk -> desk.turn(5, 1), 5, 7);
        refused("turn of kind 2", StaysTest::full, desk -> desk.turn(5, 2), 5, 8);
        refused("turn of kind 3", StaysTest::full, desk -> desk.turn(5, 3), 5, 9);
        refused("twist of no how", StaysTest::full, desk -> desk.twist(5, 3), 1, 0);
        refused("twist of no conic", StaysTest::full, desk -> desk.twist(6, 2), 1, 0);
        refused("through to no conic", StaysTest::full, desk -> desk.through(6), 1, 0);
        refused("through of none", StaysTest::full, desk -> desk.through(5), 10, 12);
        refused("mark of no point", StaysTest::full, desk -> desk.mark(133, false), 1, 0);
        refused("unmark of no point", StaysTest::full, desk -> desk.mark(-1, true), 1, 0);
        refused("mark so already", StaysTest::full, desk -> desk.mark(60, false), 2, 0);
        refused("unmark so already", StaysTest::full, desk -> desk.mark(61, true), 2, 0);
        refused("mark of a ninth one", StaysTest::full, desk -> desk.mark(61, false), 3, 0);
    }

    private static void refusedActsOfFewMarks() {
        Due.sentence("Terms 2", "REFUSED", "all else stays: few being MARKED, no ACT to be UNDONE, one image");
        refused("through of many", StaysTest::few, desk -> desk.through(0), 10, 11);
        refused("twist beyond", StaysTest::few, desk -> desk.twist(5, 2), 4, 0);
        refused("prime(11)", StaysTest::few, desk -> desk.prime(11), 2, 0);
        refused("mark so already", StaysTest::few, desk -> desk.mark(2, false), 2, 0);
        refused("unmark so already", StaysTest::few, desk -> desk.mark(3, true), 2, 0);
    }

    private static void refusedActsOfANewDesk() {
        Due.sentence("Terms 2", "REFUSED", "all else stays: as at first");
        refused("prime(7)", ConicDesk::new, desk -> desk.prime(7), 2, 0);
        refused("set to 0", ConicDesk::new, desk -> desk.set(0, 0, 0), 3, 0);
        refused("set so already", ConicDesk::new, desk -> desk.set(0, 0, 1), 2, 0);
        refused("sum of 0", ConicDesk::new, desk -> desk.sum(1, 2, 50, 3, -50), 3, 0);
        refused("turn", ConicDesk::new, desk -> desk.turn(0, 1), 5, 7);
        refused("twist so already", ConicDesk::new, desk -> desk.twist(2, 1), 2, 0);
        refused("through", ConicDesk::new, desk -> desk.through(0), 10, 11);
        refused("unmark", ConicDesk::new, desk -> desk.mark(0, true), 2, 0);
        refused("mark of no point", ConicDesk::new, desk -> desk.mark(57, false), 1, 0);
    }

    private static void callsForNothing() {
        Due.sentence("Promise 2", "NONE, and nothing comes", "all stays");
        Due.sentence("Promise 3", "NONE if it has not so many", "all stays");
        Due.sentence("Promise 14", "NONE: none can", "all stays");
        Due.sentence("Promise 33", "false for another k", "all stays");
        Due.sentence("Promise 34", "false if there is none such", "all stays");
        asked("end(-1)", StaysTest::full, desk -> desk.end(-1), NONE);
        asked("end(29)", StaysTest::full, desk -> desk.end(29), NONE);
        asked("end(28)", StaysTest::full, desk -> desk.end(28), 28);
        asked("image(3)", StaysTest::full, desk -> desk.image(3) ? 1 : 0, 0);
        asked("image(-1)", StaysTest::full, desk -> desk.image(-1) ? 1 : 0, 0);
        asked("again(1), not taken", StaysTest::full, desk -> desk.again(1) ? 1 : 0, 0);
        asked("again(3)", StaysTest::full, desk -> desk.again(3) ? 1 : 0, 0);
        asked("again(-1)", StaysTest::full, desk -> desk.again(-1) ? 1 : 0, 0);
        asked("undo of none", StaysTest::few, ConicDesk::undo, NONE);
        asked("undo of none", ConicDesk::new, ConicDesk::undo, NONE);
        asked("end(1) of none", ConicDesk::new, desk -> desk.end(1), NONE);
        asked("feed beyond", StaysTest::fullTape, desk -> desk.feed(1, 2, 3, 4, 5), NONE);
    }

    private static ConicDesk fullTape() {
        ConicDesk desk = withMarks(5, 6);
        Due.feed(desk, Edges.repeated("point 9;", 60) + " ");
        return desk;
    }

    private static void questions() {
        Due.sentence("The constants", "what there is .. two conics .. families", "asking leaves all as it is");
        asked("fault(0)", StaysTest::full, desk -> desk.fault(0), 2);
        asked("fault(2)", StaysTest::full, desk -> desk.fault(2), NONE);
        asked("why(0)", StaysTest::full, desk -> desk.why(0), 5);
        asked("why(2)", StaysTest::full, desk -> desk.why(2), NONE);
        asked("count(3)", StaysTest::full, desk -> desk.count(3), 0);
        asked("count(8)", StaysTest::full, desk -> desk.count(8), NONE);
        asked("conic(4, 8)", StaysTest::full, desk -> desk.conic(4, 8), 66);
        asked("conic(6, 0)", StaysTest::full, desk -> desk.conic(6, 0), UNKNOWN);
        asked("place(132, 2)", StaysTest::full, desk -> desk.place(132, 2), 1);
        asked("place(133, 2)", StaysTest::full, desk -> desk.place(133, 2), NONE);
        asked("number(0, 0, 11)", StaysTest::full, desk -> desk.number(0, 0, 11), NONE);
        asked("joined(0, 132)", StaysTest::full, desk -> desk.joined(0, 132), 121);
        asked("marked(8)", StaysTest::full, desk -> desk.marked(8), NONE);
        asked("lies(4, 0)", StaysTest::full, desk -> desk.lies(4, 0), 0);
        asked("lies(4, 121)", StaysTest::full, desk -> desk.lies(4, 121), 1);
        asked("on(2, 1, true)", StaysTest::full, desk -> desk.on(2, 1, true), 132);
        asked("on(2, 2, true)", StaysTest::full, desk -> desk.on(2, 2, true), NONE);
        asked("polar(4, 0)", StaysTest::full, desk -> desk.polar(4, 0), 132);
        asked("pole(4, 132)", StaysTest::full, desk -> desk.pole(4, 132), 0);
        asked("meets(0, 5)", StaysTest::full, desk -> desk.meets(0, 5), 12);
        asked("tangent(4, 0, -1)", StaysTest::full, desk -> desk.tangent(4, 0, NONE), 1);
        asked("tangent(4, 0, 0)", StaysTest::full, desk -> desk.tangent(4, 0, 0), 132);
        asked("pencil(0, 1, 0)", StaysTest::full, desk -> desk.pencil(0, 1, 0), NONE);
        asked("pencil(1, 4, 2)", StaysTest::full, desk -> desk.pencil(1, 4, 2), NONE);
        asked("pencil(1, 4, 1011)", StaysTest::full, desk -> desk.pencil(1, 4, 1011), 1);
        asked("member(4, 1, 11, 4)", StaysTest::full, desk -> desk.member(4, 1, 11, 4), 10);
        asked("passing(4, 1, 0)", StaysTest::full, desk -> desk.passing(4, 1, 0), 11);
        asked("only(0)", StaysTest::few, desk -> desk.only(0), NONE);
        asked("freed(3)", StaysTest::few, desk -> desk.freed(3), 3);
        asked("freed(2)", StaysTest::few, desk -> desk.freed(2), NONE);
        asked("useful()", StaysTest::few, ConicDesk::useful, 133 - 12);
        asked("count(7)", StaysTest::few, desk -> desk.count(7), 3);
    }

    private static void faultyTexts() {
        Due.sentence("Promise 4", "NONE: a FAULT (all else stays).");
        for (String text : new String[] {"prime 3;point 5;conic 0 1 1 1 1 1 1;!", "prime 9;", "conic 4 1 1 1 1 1 1;conic 5 0 0 0 0 0 0;"}) {
            faulty(text, StaysTest::full);
            faulty(text, StaysTest::few);
            faulty(text, ConicDesk::new);
        }
    }

    /** But for the FAULT, all is as of a desk whose tape was cut to none. */
    private static void faulty(String text, Supplier<ConicDesk> made) {
        List<Behind> rows = List.of(desk -> told(desk, true, false), StaysTest::undone, desk -> again(desk, 0, true, false),
            desk -> again(desk, 1, true, false), desk -> again(desk, 2, true, false), desk -> taken(desk, true), desk -> goneOn(desk, false));
        for (int k = 0; k < rows.size(); k++) {
            ConicDesk one = made.get();
            ConicDesk other = made.get();
            one.end(0);
            other.end(0);
            Due.is("text of '" + text + "'", Due.text(one, text), NONE);
            alike("text of '" + text + "', row " + k, rows.get(k).told(one), rows.get(k).told(other));
        }
    }

    private static final List<ToIntBiFunction<ConicDesk, Integer>> QUESTIONS = List.of(
        (desk, p) -> desk.count(3), (desk, p) -> desk.count(6), (desk, p) -> desk.count(7), (desk, p) -> desk.conic(3, 0),
        (desk, p) -> desk.conic(3, 1), (desk, p) -> desk.conic(4, 2), (desk, p) -> desk.conic(2, 6), (desk, p) -> desk.conic(2, 7),
        (desk, p) -> desk.conic(4, 8), (desk, p) -> desk.conic(4, 9), (desk, p) -> desk.conic(1, 23), (desk, p) -> desk.place(p * p - 1, 1),
        (desk, p) -> desk.number(1, -1, 2), (desk, p) -> desk.joined(1, p * p + 1), (desk, p) -> desk.lies(4, p * p),
        (desk, p) -> desk.lies(4, 2 * p + 1), (desk, p) -> desk.on(2, p, false), (desk, p) -> desk.on(2, 1, true),
        (desk, p) -> desk.polar(3, p * p - 1), (desk, p) -> desk.pole(4, p * p - 2), (desk, p) -> desk.meets(1, p + 1),
        (desk, p) -> desk.meets(3, 1), (desk, p) -> desk.tangent(4, p * p, NONE), (desk, p) -> desk.tangent(4, p * p, 0),
        (desk, p) -> desk.pencil(4, 3, 0), (desk, p) -> desk.pencil(4, 3, 1), (desk, p) -> desk.pencil(4, 5, 2),
        (desk, p) -> desk.pencil(4, 5, 100), (desk, p) -> desk.pencil(4, 3, 1000 + p), (desk, p) -> desk.pencil(3, 4, 1000 + p),
        (desk, p) -> desk.pencil(2, 4, 2000 + p), (desk, p) -> desk.pencil(2, 4, 3000 + p), (desk, p) -> desk.pencil(2, 1, 1001),
        (desk, p) -> desk.pencil(1, 2, 2000 + p - 1), (desk, p) -> desk.member(3, 4, p, 1), (desk, p) -> desk.member(3, 4, p - 1, 1),
        (desk, p) -> desk.passing(3, 4, p), (desk, p) -> desk.passing(4, 3, p * p), (desk, p) -> desk.only(1),
        (desk, p) -> desk.only(5), (desk, p) -> desk.freed(p + 1), (desk, p) -> desk.freed(p * p - 1), (desk, p) -> desk.useful(),
        (desk, p) -> desk.through(0), (desk, p) -> desk.turn(0, 4), (desk, p) -> desk.turn(0, 3), (desk, p) -> desk.twist(4, 2),
        (desk, p) -> desk.mark(p * p + p, false), (desk, p) -> desk.sum(0, 4, 2, 3, -1));

    private static String ofPrime(int p, boolean five) {
        int[] marks = five ? new int[] {0, 1, p * p, p + 1, 2 * p + 2} : new int[] {0, 1, 2};
        StringBuilder text = new StringBuilder(Edges.marks(p, marks));
        int[][] kinds = Edges.kinds(p);
        for (int kind = 0; kind < 5; kind++) {
            text.append(Edges.conic(kind, kinds[kind]));
        }
        return text.append("conic 5 1 1 1 0 0 0;").toString();
    }

    /** Each question, asked first, has the answer that it has behind all the others, of this PRIME and of another one. */
    private static void whateverWasAskedBefore() {
        Due.sentence("The constants", "what there is .. two conics .. families", "whatever was asked before, of whichever PRIME");
        for (int p : Edges.PRIMES) {
            for (int k = 0; k < QUESTIONS.size(); k++) {
                for (int five = 0; five < 2; five++) {
                    int first = QUESTIONS.get(k).applyAsInt(Edges.desk(ofPrime(p, five == 1)), p);
                    int other = p == 23 ? 3 : 23;
                    ConicDesk desk = Edges.desk(ofPrime(other, five == 0));
                    for (ToIntBiFunction<ConicDesk, Integer> question : QUESTIONS) {
                        question.applyAsInt(desk, other);
                    }
                    Due.holds("text", Due.text(desk, ofPrime(p, five == 1)) > 0);
                    for (int before = 0; before < 43; before++) {
                        QUESTIONS.get(before).applyAsInt(desk, p);
                    }
                    Due.is("question " + k + " of " + p, QUESTIONS.get(k).applyAsInt(desk, p), first);
                }
            }
        }
    }
}
