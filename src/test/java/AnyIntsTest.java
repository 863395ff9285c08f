/** Calls with every choice of ints at the ends of their ranges, each compared with the Model's answer. */
public final class AnyIntsTest {
    private static final int[] INTS = {Edges.LOWEST, Edges.LOWEST + 1, Edges.UNKNOWN, -100, -99, -2, -1, 0, 1, 5, 6, 7, 56, 57, 99,
        100, 1000, 1007, Edges.HIGHEST - 1, Edges.HIGHEST};
    private static final int[] FEWER = {Edges.LOWEST, -100, -99, -1, 0, 1, 5, 6, 99, 100, Edges.HIGHEST};
    private static final int[] FEWEST = {Edges.LOWEST, -99, 0, 1, 5, 6, Edges.HIGHEST};
    private static final String TEXT = "prime 7;conic 0 1 -1 0 0 0 0;conic 1 1 0 -1 0 0 0;conic 5 0 1 0 0 -1 0;conic 4 7 0 0 0 0 0;"
        + "point 0;point 56;point 1;point 7;";
    private static final int CALLS = 480;

    private ConicDesk desk;
    private Model model;
    private int made = CALLS;

    public static void main(String[] args) {
        AnyIntsTest test = new AnyIntsTest();
        Due.sentence("What it is", "An object is used for at most 512 calls", "with any ints: each is answered, and nothing is thrown");
        for (int a : INTS) {
            test.withOne(a);
            for (int b : INTS) {
                test.withTwo(a, b);
                for (int c : INTS) {
                    test.withThree(a, b, c);
                }
            }
        }
        for (int a : FEWER) {
            for (int b : FEWER) {
                for (int c : FEWER) {
                    for (int d : FEWER) {
                        test.ready();
                        test.is("member", test.desk.member(a, b, c, d), test.model.member(a, b, c, d));
                    }
                }
            }
        }
        test.withFive();
        Due.end("AnyIntsTest");
    }

    /** A like desk and model, new ones where the last ones have been called often enough. */
    private void ready() {
        if (made >= CALLS) {
            desk = new ConicDesk();
            model = new Model();
            Due.is("text", Due.text(desk, TEXT), 9);
            for (int at = 0; at < TEXT.length(); at += 20) {
                int[] fours = new int[5];
                for (int k = 0; k < 20; k++) {
                    fours[k / 4] = fours[k / 4] << 8 | (at + k < TEXT.length() ? TEXT.charAt(at + k) : ' ');
                }
                model.feed(fours);
            }
            Due.is("the model's text", model.text(), 9);
            made = 20;
        }
        made++;
    }

    private void is(String call, int got, int want) {
        Due.is(call, got, want);
    }

    private void withOne(int a) {
        boolean[] flags = {false, true};
        for (boolean flag : flags) {
            ready();
            is("mark " + a + " " + flag, desk.mark(a, flag), model.mark(a, flag));
        }
        for (int call = 0; call < 11; call++) {
            ready();
            one(call, a);
        }
    }

    private void one(int call, int a) {
        switch (call) {
            case 0:
                is("end " + a, desk.end(a), model.end(a));
                break;
            case 1:
                is("fault " + a, desk.fault(a), model.fault(a));
                break;
            case 2:
                is("prime " + a, desk.prime(a), model.prime(a));
                break;
            case 3:
                is("through " + a, desk.through(a), model.through(a));
                break;
            case 4:
                is("why " + a, desk.why(a), model.why(a));
                break;
            case 5:
                is("count " + a, desk.count(a), model.count(a));
                break;
            case 6:
                is("marked " + a, desk.marked(a), model.marked(a));
                break;
            case 7:
                is("only " + a, desk.only(a), model.only(a));
                break;
            case 8:
                is("freed " + a, desk.freed(a), model.freed(a));
                break;
            case 9:
                is("image " + a, desk.image(a) ? 1 : 0, model.image(a) ? 1 : 0);
                break;
            default:
                is("again " + a, desk.again(a) ? 1 : 0, model.again(a) ? 1 : 0);
                break;
        }
    }

    private void withTwo(int a, int b) {
        String of = " " + a + " " + b;
        for (int call = 0; call < 11; call++) {
            ready();
            two(call, a, b, of);
        }
    }

    private void two(int call, int a, int b, String of) {
        switch (call) {
            case 0:
                is("turn" + of, desk.turn(a, b), model.turn(a, b));
                break;
            case 1:
                is("twist" + of, desk.twist(a, b), model.twist(a, b));
                break;
            case 2:
                is("conic" + of, desk.conic(a, b), model.conic(a, b));
                break;
            case 3:
                is("place" + of, desk.place(a, b), model.place(a, b));
                break;
            case 4:
                is("joined" + of, desk.joined(a, b), model.joined(a, b));
                break;
            case 5:
                is("lies" + of, desk.lies(a, b), model.lies(a, b));
                break;
            case 6:
                is("on, points" + of, desk.on(a, b, false), model.on(a, b, false));
                break;
            case 7:
                is("on, lines" + of, desk.on(a, b, true), model.on(a, b, true));
                break;
            case 8:
                is("polar" + of, desk.polar(a, b), model.polar(a, b));
                break;
            case 9:
                is("pole" + of, desk.pole(a, b), model.pole(a, b));
                break;
            default:
                is("meets" + of, desk.meets(a, b), model.meets(a, b));
                break;
        }
    }

    private void withThree(int a, int b, int c) {
        String of = " " + a + " " + b + " " + c;
        ready();
        is("set" + of, desk.set(a, b, c), model.set(a, b, c));
        ready();
        is("undo", desk.undo(), model.undo());
        ready();
        is("number" + of, desk.number(a, b, c), model.number(a, b, c));
        ready();
        is("tangent" + of, desk.tangent(a, b, c), model.tangent(a, b, c));
        ready();
        is("pencil" + of, desk.pencil(a, b, c), model.pencil(a, b, c));
        ready();
        is("passing" + of, desk.passing(a, b, c), model.passing(a, b, c));
    }

    private void withFive() {
        for (int a : FEWEST) {
            for (int b : FEWEST) {
                for (int c : FEWEST) {
                    for (int d : FEWEST) {
                        for (int e : FEWEST) {
                            String of = " " + a + " " + b + " " + c + " " + d + " " + e;
                            ready();
                            is("sum" + of, desk.sum(a, b, c, d, e), model.sum(a, b, c, d, e));
                            ready();
                            is("feed" + of, desk.feed(a, b, c, d, e), model.feed(a, b, c, d, e));
                            ready();
                            is("useful", desk.useful(), model.useful());
                        }
                    }
                }
            }
        }
    }
}
