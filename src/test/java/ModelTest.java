/** Long runs of all calls, each answer compared with the Model's. The same runs every time. */
public final class ModelTest {
    private static final int RUNS = 2000;
    private static final int CALLS = 512;
    private static final int[] PRIMES = {3, 3, 5, 5, 7, 7, 11, 13, 17, 19, 23};
    private static final int[] EDGES = {-1, -2, 6, 7, 99, -99, 100, -100, 57, 56, 552, 553,
        Integer.MAX_VALUE, Integer.MIN_VALUE, 1000000, -2000000000};
    private static final int OPS = 33;

    private long state;
    private final int[] args = new int[5];
    private int made = 0;

    public static void main(String[] args) {
        for (int run = 0; run < RUNS; run++) {
            new ModelTest().run(run);
        }
        Due.end("ModelTest");
    }

    private void run(int run) {
        state = 77 + 1000003L * run;
        ConicDesk desk = new ConicDesk();
        Model model = new Model();
        while (made < CALLS) {
            int dice = below(20);
            if (dice == 0) {
                tape(run, desk, model);
            } else {
                int op = dice < 8 ? 4 + below(7) : below(OPS);
                both(run, desk, model, op);
            }
        }
    }

    private int below(int n) {
        state = state * 6364136223846793005L + 1442695040888963407L;
        return (int) ((state >>> 33) % n);
    }

    /** Feeds a random text, cuts the tape, takes it. */
    private void tape(int run, ConicDesk desk, Model model) {
        String text = text();
        int before = model.count(5);
        for (int at = 0; at < text.length(); at += 20) {
            for (int k = 0; k < 5; k++) {
                args[k] = 0;
                for (int i = 0; i < 4; i++) {
                    int place = at + 4 * k + i;
                    args[k] = args[k] << 8 | (place < text.length() ? text.charAt(place) : below(256));
                }
            }
            compare(run, "feed", desk.feed(args[0], args[1], args[2], args[3], args[4]), model.feed(args.clone()));
        }
        int end = below(12) == 0 ? below(500) : before + text.length();
        compare(run, "end", desk.end(end), model.end(end));
        if (below(8) > 0) {
            compare(run, "text '" + text + "'", desk.text(), model.text());
            compare(run, "fault(0)", desk.fault(0), model.fault(0));
            compare(run, "fault(1)", desk.fault(1), model.fault(1));
        }
    }

    private String text() {
        StringBuilder text = new StringBuilder();
        int lines = below(9);
        int p = 7;
        for (int k = 0; k < lines; k++) {
            int dice = below(10);
            if (dice == 0 || k == 0) {
                p = PRIMES[below(PRIMES.length)];
                text.append("prime ").append(p);
            } else if (dice < 4) {
                text.append("point ").append(below(p * p + p + 1));
            } else {
                text.append(dice < 7 ? "conic " : "pair ").append(below(6));
                for (int i = 0; i < 6; i++) {
                    text.append(below(5) == 0 ? "\n" : " ").append(below(25) == 0 ? below(121) - 60 : below(7) - 3);
                }
            }
            text.append(below(3) == 0 ? " ;" : ";").append(below(3) == 0 ? "\n " : "");
        }
        return text.length() > 0 && below(3) == 0 ? spoiled(text) : text.toString();
    }

    private String spoiled(StringBuilder text) {
        String[] others = {"-", ";", "9", "00", "a", " ", "\n", "\u00e9", "100", "1000", "prime", "- -", "P", "\t", ""};
        int at = below(text.length());
        text.replace(at, at + below(3), others[below(others.length)]);
        return text.toString();
    }

    private int conic() {
        return below(40) == 0 ? edge() : below(6);
    }

    private int point(Model model) {
        int points = model.count(1);
        return below(30) == 0 ? edge() : below(6) == 0 ? model.marked(below(8)) : below(points);
    }

    private int small() {
        int dice = below(12);
        return dice == 0 ? edge() : dice == 1 ? below(201) - 100 : below(9) - 4;
    }

    private int edge() {
        return EDGES[below(EDGES.length)];
    }

    private int member(Model model) {
        return below(model.count(0) + 2);
    }

    private void both(int run, ConicDesk desk, Model model, int op) {
        for (int k = 0; k < 5; k++) {
            args[k] = small();
        }
        int a = args[0];
        int b = args[1];
        int c = args[2];
        int conic = conic();
        int other = conic();
        int point = point(model);
        boolean flag = below(2) == 0;
        switch (op) {
            case 0:
                compare(run, "feed", desk.feed(a, b, c, args[3], args[4]), model.feed(args.clone()));
                break;
            case 1:
                compare(run, "end " + a, desk.end(a), model.end(a));
                break;
            case 2:
                compare(run, "fault " + a, desk.fault(a), model.fault(a));
                break;
            case 3:
                int p = below(3) > 0 ? a : PRIMES[below(PRIMES.length)];
                compare(run, "prime " + p, desk.prime(p), model.prime(p));
                break;
            case 4:
                int i = below(20) == 0 ? a : below(6);
                compare(run, "set " + conic + " " + i + " " + b, desk.set(conic, i, b), model.set(conic, i, b));
                break;
            case 5:
                int to = conic();
                compare(run, "sum " + to + " " + conic + " " + a + " " + other + " " + b,
                    desk.sum(to, conic, a, other, b), model.sum(to, conic, a, other, b));
                break;
            case 6:
                compare(run, "turn " + conic + " " + other, desk.turn(conic, other), model.turn(conic, other));
                break;
            case 7:
                compare(run, "twist " + conic + " " + a, desk.twist(conic, a), model.twist(conic, a));
                break;
            case 8:
                compare(run, "through " + conic, desk.through(conic), model.through(conic));
                break;
            case 9:
            case 10:
                boolean off = below(6) == 0;
                compare(run, "mark " + point + " " + off, desk.mark(point, off), model.mark(point, off));
                break;
            case 11:
                compare(run, "undo", desk.undo(), model.undo());
                break;
            case 12:
                int k = below(12) - 2;
                compare(run, "count " + k, desk.count(k), model.count(k));
                break;
            case 13:
                int what = below(12) == 0 ? edge() : below(28) - 1;
                compare(run, "conic " + conic + " " + what, desk.conic(conic, what), model.conic(conic, what));
                break;
            case 14:
                compare(run, "place " + point + " " + a, desk.place(point, a), model.place(point, a));
                break;
            case 15:
                compare(run, "number " + a + " " + b + " " + c, desk.number(a, b, c), model.number(a, b, c));
                break;
            case 16:
                int second = point(model);
                compare(run, "joined " + point + " " + second, desk.joined(point, second), model.joined(point, second));
                break;
            case 17:
                compare(run, "marked " + a, desk.marked(a), model.marked(a));
                break;
            case 18:
                compare(run, "lies " + conic + " " + point, desk.lies(conic, point), model.lies(conic, point));
                break;
            case 19:
                int few = below(4) > 0 ? below(3) : below(60) - 1;
                compare(run, "on " + conic + " " + few + flag, desk.on(conic, few, flag), model.on(conic, few, flag));
                break;
            default:
                asked(run, desk, model, op, conic, other, point);
                break;
        }
        compare(run, "why(0)", desk.why(0), model.why(0));
        compare(run, "why(1)", desk.why(1), model.why(1));
        if (below(40) == 0) {
            whole(run, desk, model);
        }
    }

    private void asked(int run, ConicDesk desk, Model model, int op, int conic, int other, int point) {
        int a = args[0];
        int b = below(20) == 0 ? edge() : below(6);
        switch (op) {
            case 20:
                compare(run, "polar " + conic + " " + point, desk.polar(conic, point), model.polar(conic, point));
                break;
            case 21:
                compare(run, "pole " + conic + " " + point, desk.pole(conic, point), model.pole(conic, point));
                break;
            case 22:
                compare(run, "meets " + conic + " " + point, desk.meets(conic, point), model.meets(conic, point));
                break;
            case 23:
                int k = below(5) - 2;
                compare(run, "tangent " + conic + " " + point + " " + k,
                    desk.tangent(conic, point, k), model.tangent(conic, point, k));
                break;
            case 24:
            case 25:
                int[] whats = {below(5) - 1, 100 + below(7), 1000 + member(model), 2000 + member(model),
                    3000 + member(model), 99, 999, a};
                int what = whats[below(whats.length)];
                compare(run, "pencil " + conic + " " + other + " " + what,
                    desk.pencil(conic, other, what), model.pencil(conic, other, what));
                break;
            case 26:
                int t = below(10) == 0 ? a : member(model);
                compare(run, "member " + conic + " " + other + " " + t + " " + b,
                    desk.member(conic, other, t, b), model.member(conic, other, t, b));
                break;
            case 27:
                compare(run, "passing " + conic + " " + other + " " + point,
                    desk.passing(conic, other, point), model.passing(conic, other, point));
                break;
            case 28:
                compare(run, "only " + b, desk.only(b), model.only(b));
                break;
            case 29:
                compare(run, "freed " + point, desk.freed(point), model.freed(point));
                break;
            case 30:
                compare(run, "useful", desk.useful(), model.useful());
                break;
            case 31:
                int kept = below(5) - 1;
                compare(run, "image " + kept, desk.image(kept) ? 1 : 0, model.image(kept) ? 1 : 0);
                break;
            default:
                int back = below(12) - 1;
                compare(run, "again " + back, desk.again(back) ? 1 : 0, model.again(back) ? 1 : 0);
                break;
        }
    }

    /** All that is, but for the tape's bytes. */
    private void whole(int run, ConicDesk desk, Model model) {
        for (int what = 0; what < 8; what++) {
            compare(run, "count " + what, desk.count(what), model.count(what));
        }
        for (int conic = 0; conic < 6; conic++) {
            for (int what = 0; what < 16; what++) {
                compare(run, "conic " + conic + " " + what, desk.conic(conic, what), model.conic(conic, what));
            }
        }
        for (int k = 0; k < 8; k++) {
            compare(run, "marked " + k, desk.marked(k), model.marked(k));
        }
    }

    /** Each comparison is of one call: what calls behind the last one answer is free. */
    private void compare(int run, String call, int got, int want) {
        made++;
        if (made <= CALLS) {
            Due.is("run " + run + ": " + call, got, want);
        }
    }
}
