/**
 * A desk with six conics: sorted over fractions, looked at over a small field, acted on, undone,
 * read from texts and kept as images. Every row is made with the desk; no call makes another.
 */
public final class ConicDesk {
    public static final int NONE = -1;
    public static final int UNKNOWN = -2000000000;

    private static final int CONICS = 6;
    private static final int NUMBERS = 6;
    private static final int LIMIT = 99;
    private static final int MOST_MARKED = 8;
    private static final int MOST_UNDONE = 8;
    private static final int IMAGES = 3;
    private static final int TAPE_BYTES = 500;
    private static final int FED_BYTES = 20;
    private static final int FIRST_PRIME = 7;
    private static final int[] PRIMES = {3, 5, 7, 11, 13, 17, 19, 23};

    private static final int VOID = 0;
    private static final int LINE_TWICE = 1;
    private static final int TWO_LINES = 2;
    private static final int ONE_POINT = 3;
    private static final int PROPER = 4;

    private static final int CANT_BE = 1;
    private static final int SO_ALREADY = 2;
    private static final int ALL_ZERO = 3;
    private static final int EIGHT_ARE_MARKED = 3;
    private static final int BEYOND_LIMIT = 4;
    private static final int NO_DUAL = 5;
    private static final int NO_DUAL_OF_KIND_0 = 6;
    private static final int NONE_THROUGH = 10;
    private static final int THROUGH_MANY = 11;
    private static final int THROUGH_NO_ONE = 12;

    private final Moment now;
    private final Past past;
    private final Moment[] images;
    private final boolean[] taken;
    private final Reader reader;
    private final Pencil bundle;
    private final Family family;
    private final Curve curve;
    private final Curve dual;
    private final Form form;
    private final Form otherForm;
    private final Triple spot;
    private final Triple otherSpot;
    private final Triple edge;

    public ConicDesk() {
        now = new Moment();
        past = new Past();
        images = new Moment[IMAGES];
        for (int k = 0; k < IMAGES; k++) {
            images[k] = new Moment();
        }
        taken = new boolean[IMAGES];
        reader = new Reader();
        bundle = new Pencil();
        family = new Family();
        curve = new Curve();
        dual = new Curve();
        form = new Form();
        otherForm = new Form();
        spot = new Triple();
        otherSpot = new Triple();
        edge = new Triple();
    }

    // ---- the tape

    public int feed(int a, int b, int c, int d, int e) {
        if (now.tape.length > TAPE_BYTES - FED_BYTES) {
            return NONE;
        }
        now.tape.addFour(a);
        now.tape.addFour(b);
        now.tape.addFour(c);
        now.tape.addFour(d);
        now.tape.addFour(e);
        return now.tape.length;
    }

    public int end(int n) {
        if (n < 0 || n > now.tape.length) {
            return NONE;
        }
        now.tape.length = n;
        return n;
    }

    public int text() {
        int lines = reader.read(now.tape);
        now.tape.length = 0;
        now.fault = reader.fault;
        now.faultPlace = reader.faultPlace;
        if (lines != NONE) {
            now.sheet.copy(reader.draft);
            past.forget();
        }
        return lines;
    }

    public int fault(int what) {
        if (what == 0) {
            return now.fault;
        }
        return what == 1 ? now.faultPlace : NONE;
    }

    // ---- acts

    public int prime(int p) {
        if (!isPrime(p)) {
            return refuse(CANT_BE, 0);
        }
        if (now.sheet.prime == p) {
            return refuse(SO_ALREADY, 0);
        }
        past.keep(now.sheet);
        now.sheet.changePrime(p);
        return accept();
    }

    public int set(int conic, int i, int v) {
        if (!isConic(conic) || !isNumber(i) || isBeyond(v)) {
            return refuse(CANT_BE, 0);
        }
        now.sheet.read(conic, form);
        if (form.nth(i) == v) {
            return refuse(SO_ALREADY, 0);
        }
        form.change(i, v);
        return become(conic, form);
    }

    public int sum(int to, int one, int x, int other, int y) {
        if (!isConic(to) || !isConic(one) || !isConic(other) || isBeyond(x) || isBeyond(y)) {
            return refuse(CANT_BE, 0);
        }
        now.sheet.read(one, form);
        now.sheet.read(other, otherForm);
        form.blend(x, y, otherForm);
        return become(to, form);
    }

    public int turn(int to, int of) {
        if (!isConic(to) || !isConic(of)) {
            return refuse(CANT_BE, 0);
        }
        curve.take(now.sheet, of);
        int kind = curve.kind();
        if (kind != PROPER) {
            return refuse(NO_DUAL, NO_DUAL_OF_KIND_0 + kind);
        }
        dual.becomeDual(curve);
        return become(to, dual.form);
    }

    public int twist(int conic, int how) {
        if (!isConic(conic) || how < 0 || how > 2) {
            return refuse(CANT_BE, 0);
        }
        now.sheet.read(conic, form);
        otherForm.copy(form);
        form.twisted(how);
        if (form.isLike(otherForm)) {
            return refuse(SO_ALREADY, 0);
        }
        return become(conic, form);
    }

    public int through(int to) {
        if (!isConic(to)) {
            return refuse(CANT_BE, 0);
        }
        family.gather(now.sheet);
        if (family.free != 1) {
            return refuse(NONE_THROUGH, family.free > 1 ? THROUGH_MANY : THROUGH_NO_ONE);
        }
        family.readOne(form);
        return become(to, form);
    }

    public int mark(int point, boolean off) {
        if (!spot.take(point, now.sheet.prime)) {
            return refuse(CANT_BE, 0);
        }
        if (now.sheet.isMarked(point) != off) {
            return refuse(SO_ALREADY, 0);
        }
        if (!off && now.sheet.markCount >= MOST_MARKED) {
            return refuse(EIGHT_ARE_MARKED, 0);
        }
        past.keep(now.sheet);
        if (off) {
            now.sheet.dropMark(point);
        } else {
            now.sheet.addMark(point);
        }
        return accept();
    }

    public int why(int level) {
        if (level == 0) {
            return now.reason;
        }
        return level == 1 ? now.cause : NONE;
    }

    public int undo() {
        return past.giveBack(now.sheet) ? past.size : NONE;
    }

    // ---- what there is

    public int count(int what) {
        switch (what) {
            case 0:
                return now.sheet.prime;
            case 1:
                return Field.points(now.sheet.prime);
            case 2:
                return now.sheet.markCount;
            case 3:
                family.gather(now.sheet);
                return family.free;
            case 4:
                return past.size;
            case 5:
                return now.tape.length;
            case 6:
                return properConics();
            case 7:
                return marksInLine();
            default:
                return NONE;
        }
    }

    public int conic(int conic, int what) {
        if (!isConic(conic)) {
            return UNKNOWN;
        }
        now.sheet.read(conic, form);
        curve.take(now.sheet, conic);
        if (what >= 10 && isNumber(what - 10)) {
            return form.nth(what - 10);
        }
        if (what >= 20 && isNumber(what - 20)) {
            return curve.form.nth(what - 20);
        }
        return what < 6 ? overFractionsOrKind(what) : overField(what);
    }

    public int place(int number, int what) {
        if (what < 0 || what > 2 || !spot.take(number, now.sheet.prime)) {
            return NONE;
        }
        return spot.nth(what);
    }

    public int number(int x, int y, int z) {
        spot.fill(x, y, z);
        return spot.numbered(now.sheet.prime);
    }

    public int joined(int one, int other) {
        int p = now.sheet.prime;
        if (!spot.take(one, p) || !otherSpot.take(other, p)) {
            return NONE;
        }
        edge.cross(spot, otherSpot);
        return edge.numbered(p);
    }

    public int marked(int k) {
        return now.sheet.markAt(k);
    }

    public int lies(int conic, int point) {
        if (!takeBoth(conic, point)) {
            return NONE;
        }
        if (curve.valueAt(spot) == 0) {
            return 0;
        }
        if (curve.kind() != PROPER) {
            return 3;
        }
        return tangentsThroughSpot() > 0 ? 1 : 2;
    }

    public int on(int conic, int k, boolean line) {
        if (!isConic(conic) || k < 0) {
            return NONE;
        }
        curve.take(now.sheet, conic);
        return line ? nthLineOn(k) : nthPointOn(k);
    }

    public int polar(int conic, int point) {
        if (!takeBoth(conic, point)) {
            return NONE;
        }
        curve.polarOf(spot, edge);
        return edge.numbered(now.sheet.prime);
    }

    public int pole(int conic, int line) {
        if (!takeBoth(conic, line) || curve.kind() != PROPER) {
            return NONE;
        }
        // The DUAL's MATRIX undoes the CONIC's own, but for a factor: its POLAR of the LINE is the POLE.
        dual.becomeDual(curve);
        dual.polarOf(spot, otherSpot);
        return otherSpot.numbered(now.sheet.prime);
    }

    public int meets(int conic, int line) {
        if (!takeBoth(conic, line)) {
            return NONE;
        }
        return curve.crossings(spot);
    }

    public int tangent(int conic, int point, int k) {
        if (k < NONE || !takeBoth(conic, point) || curve.kind() != PROPER) {
            return NONE;
        }
        return k == NONE ? tangentsThroughSpot() : nthTangentThroughSpot(k);
    }

    // ---- two conics

    public int pencil(int one, int other, int what) {
        if (!takePencil(one, other)) {
            return NONE;
        }
        if (what >= 3000) {
            return bundle.takeMember(what - 3000) ? bundle.mixed.lines() : NONE;
        }
        if (what >= 2000) {
            return bundle.takeMember(what - 2000) ? bundle.mixed.points() : NONE;
        }
        if (what >= 1000) {
            return bundle.takeMember(what - 1000) ? bundle.mixed.kind() : NONE;
        }
        if (what >= 100) {
            return bundle.nthOfBase(what - 100);
        }
        switch (what) {
            case 0:
                return bundle.sizeOfBase();
            case 1:
                return bundle.fallen();
            case 2:
                return bundle.touching();
            default:
                return NONE;
        }
    }

    public int member(int one, int other, int t, int i) {
        if (!isNumber(i) || !takePencil(one, other) || !bundle.takeMember(t)) {
            return NONE;
        }
        return bundle.mixed.form.nth(i);
    }

    public int passing(int one, int other, int point) {
        if (!takePencil(one, other) || !spot.take(point, now.sheet.prime)) {
            return NONE;
        }
        return bundle.firstThrough(spot);
    }

    // ---- families

    public int only(int i) {
        family.gather(now.sheet);
        if (family.free != 1 || !isNumber(i)) {
            return NONE;
        }
        family.readOne(form);
        return form.nth(i);
    }

    public int freed(int point) {
        if (!spot.take(point, now.sheet.prime) || now.sheet.isMarked(point)) {
            return NONE;
        }
        family.gather(now.sheet);
        return family.isLessBy(spot) ? family.free - 1 : family.free;
    }

    public int useful() {
        family.gather(now.sheet);
        int p = now.sheet.prime;
        int found = 0;
        for (int number = 0; number < Field.points(p); number++) {
            if (spot.take(number, p) && family.isLessBy(spot)) {
                found++;
            }
        }
        return found;
    }

    public boolean image(int k) {
        if (k < 0 || k >= IMAGES) {
            return false;
        }
        images[k].copy(now);
        taken[k] = true;
        return true;
    }

    public boolean again(int k) {
        if (k < 0 || k >= IMAGES || !taken[k]) {
            return false;
        }
        now.copy(images[k]);
        past.forget();
        return true;
    }

    // ---- how acts end

    private int refuse(int reason, int cause) {
        now.reason = reason;
        now.cause = cause;
        return reason;
    }

    private int accept() {
        now.reason = 0;
        now.cause = 0;
        return 0;
    }

    private int become(int conic, Form next) {
        if (next.isZero()) {
            return refuse(ALL_ZERO, 0);
        }
        if (!next.isWithinLimit()) {
            return refuse(BEYOND_LIMIT, 0);
        }
        past.keep(now.sheet);
        now.sheet.write(conic, next);
        return accept();
    }

    // ---- what can be

    private static boolean isPrime(int p) {
        for (int k = 0; k < PRIMES.length; k++) {
            if (PRIMES[k] == p) {
                return true;
            }
        }
        return false;
    }

    private static boolean isConic(int conic) {
        return conic >= 0 && conic < CONICS;
    }

    private static boolean isNumber(int i) {
        return i >= 0 && i < NUMBERS;
    }

    private static boolean isBeyond(int value) {
        return value < -LIMIT || value > LIMIT;
    }

    // ---- what the questions share

    /** The CONIC comes into curve and the POINT, or LINE, of that number into spot. */
    private boolean takeBoth(int conic, int number) {
        if (!isConic(conic) || !spot.take(number, now.sheet.prime)) {
            return false;
        }
        curve.take(now.sheet, conic);
        return true;
    }

    private boolean takePencil(int one, int other) {
        return isConic(one) && isConic(other) && bundle.take(now.sheet, one, other);
    }

    private int overFractionsOrKind(int what) {
        switch (what) {
            case 0:
                return form.sort();
            case 1:
                return curve.kind();
            case 2:
                return curve.rank();
            case 3:
                return form.d();
            case 4:
                return form.e();
            case 5:
                return form.i();
            default:
                return UNKNOWN;
        }
    }

    private int overField(int what) {
        int p = now.sheet.prime;
        boolean proper = curve.kind() == PROPER;
        switch (what) {
            case 6:
                return curve.points();
            case 7:
                return curve.lines();
            case 8:
                // Two TANGENTS meet in a POINT OUTSIDE, and each such POINT is of one pair alone.
                return proper ? p * (p + 1) / 2 : NONE;
            case 9:
                return proper ? p * (p - 1) / 2 : NONE;
            default:
                return UNKNOWN;
        }
    }

    private int properConics() {
        int found = 0;
        for (int conic = 0; conic < CONICS; conic++) {
            curve.take(now.sheet, conic);
            if (curve.kind() == PROPER) {
                found++;
            }
        }
        return found;
    }

    private int marksInLine() {
        int found = 0;
        for (int k = 0; k < now.sheet.markCount; k++) {
            if (isInLine(k)) {
                found++;
            }
        }
        return found;
    }

    /** Whether the k-th MARKED POINT lies on a LINE with two other ones. */
    private boolean isInLine(int k) {
        int p = now.sheet.prime;
        for (int j = 0; j < now.sheet.markCount; j++) {
            if (j == k || !spot.take(now.sheet.markAt(k), p) || !otherSpot.take(now.sheet.markAt(j), p)) {
                continue;
            }
            edge.cross(spot, otherSpot);
            for (int i = j + 1; i < now.sheet.markCount; i++) {
                if (i != k && otherSpot.take(now.sheet.markAt(i), p) && edge.isOn(otherSpot, p)) {
                    return true;
                }
            }
        }
        return false;
    }

    /** Of curve, which is PROPER: as many TANGENTS go through a POINT as its POLAR has POINTS ON it. */
    private int tangentsThroughSpot() {
        int p = now.sheet.prime;
        curve.polarOf(spot, edge);
        return edge.take(edge.numbered(p), p) ? curve.crossings(edge) : 0;
    }

    private int nthTangentThroughSpot(int k) {
        int p = now.sheet.prime;
        int left = k;
        dual.becomeDual(curve);
        for (int number = 0; number < Field.points(p); number++) {
            if (edge.take(number, p) && edge.isOn(spot, p) && dual.valueAt(edge) == 0) {
                if (left == 0) {
                    return number;
                }
                left--;
            }
        }
        return NONE;
    }

    private int nthPointOn(int k) {
        int p = now.sheet.prime;
        int left = k;
        for (int number = 0; number < Field.points(p); number++) {
            if (spot.take(number, p) && curve.valueAt(spot) == 0) {
                if (left == 0) {
                    return number;
                }
                left--;
            }
        }
        return NONE;
    }

    private int nthLineOn(int k) {
        int p = now.sheet.prime;
        int left = k;
        if (k >= curve.lines()) {
            return NONE;
        }
        for (int number = 0; number < Field.points(p); number++) {
            if (spot.take(number, p) && curve.crossings(spot) > 2) {
                if (left == 0) {
                    return number;
                }
                left--;
            }
        }
        return NONE;
    }

    /** Numbers modulo a prime. Nothing else in the program divides by one. */
    private static final class Field {

        static int rest(int value, int p) {
            return p > 0 ? Math.floorMod(value, p) : 0;
        }

        /** POINTS of the plane, and as many LINES. */
        static int points(int p) {
            return p * p + p + 1;
        }

        static int inverse(int value, int p) {
            for (int guess = 1; guess < p; guess++) {
                if (rest(guess * value, p) == 1) {
                    return guess;
                }
            }
            return 0;
        }

        static boolean isSquare(int value, int p) {
            int wanted = rest(value, p);
            for (int root = 0; root < p; root++) {
                if (rest(root * root, p) == wanted) {
                    return true;
                }
            }
            return false;
        }
    }

    /** The three numbers of a POINT or of a LINE. */
    private static final class Triple {
        int x;
        int y;
        int z;

        void fill(int first, int second, int third) {
            x = first;
            y = second;
            z = third;
        }

        int nth(int i) {
            if (i == 0) {
                return x;
            }
            return i == 1 ? y : z;
        }

        /** Whether there is one of that number; it comes here then. */
        boolean take(int number, int p) {
            if (p < 1 || number < 0 || number >= Field.points(p)) {
                return false;
            }
            if (number < p * p) {
                fill(1, number / p, number % p);
            } else if (number < p * p + p) {
                fill(0, 1, number - p * p);
            } else {
                fill(0, 0, 1);
            }
            return true;
        }

        /** The number of what these three tell; NONE if they are all 0. */
        int numbered(int p) {
            int u = Field.rest(x, p);
            int v = Field.rest(y, p);
            int w = Field.rest(z, p);
            if (u != 0) {
                int scale = Field.inverse(u, p);
                return p * Field.rest(v * scale, p) + Field.rest(w * scale, p);
            }
            if (v != 0) {
                return p * p + Field.rest(w * Field.inverse(v, p), p);
            }
            return w != 0 ? p * p + p : NONE;
        }

        void cross(Triple one, Triple other) {
            fill(one.y * other.z - one.z * other.y,
                    one.z * other.x - one.x * other.z,
                    one.x * other.y - one.y * other.x);
        }

        boolean isOn(Triple other, int p) {
            return Field.rest(x * other.x + y * other.y + z * other.z, p) == 0;
        }
    }

    /** The six numbers of a conic, and what they tell over fractions. */
    private static final class Form {
        int a;
        int b;
        int c;
        int f;
        int g;
        int h;

        void fill(int xx, int yy, int zz, int yz, int zx, int xy) {
            a = xx;
            b = yy;
            c = zz;
            f = yz;
            g = zx;
            h = xy;
        }

        void copy(Form other) {
            fill(other.a, other.b, other.c, other.f, other.g, other.h);
        }

        int nth(int i) {
            switch (i) {
                case 0:
                    return a;
                case 1:
                    return b;
                case 2:
                    return c;
                case 3:
                    return f;
                case 4:
                    return g;
                default:
                    return h;
            }
        }

        void change(int i, int value) {
            switch (i) {
                case 0:
                    a = value;
                    break;
                case 1:
                    b = value;
                    break;
                case 2:
                    c = value;
                    break;
                case 3:
                    f = value;
                    break;
                case 4:
                    g = value;
                    break;
                default:
                    h = value;
                    break;
            }
        }

        boolean isZero() {
            return a == 0 && b == 0 && c == 0 && f == 0 && g == 0 && h == 0;
        }

        boolean isLike(Form other) {
            return a == other.a && b == other.b && c == other.c
                    && f == other.f && g == other.g && h == other.h;
        }

        boolean isWithinLimit() {
            return !(isBeyond(a) || isBeyond(b) || isBeyond(c)
                    || isBeyond(f) || isBeyond(g) || isBeyond(h));
        }

        /** Becomes this one times own and the other one times share. */
        void blend(int own, int share, Form other) {
            fill(own * a + share * other.a, own * b + share * other.b, own * c + share * other.c,
                    own * f + share * other.f, own * g + share * other.g, own * h + share * other.h);
        }

        void reduce(int p) {
            fill(Field.rest(a, p), Field.rest(b, p), Field.rest(c, p),
                    Field.rest(f, p), Field.rest(g, p), Field.rest(h, p));
        }

        void twisted(int how) {
            if (how == 0) {
                fill(b, a, c, g, f, h);
            } else if (how == 1) {
                fill(a, c, b, f, h, g);
            } else {
                fill(a, a + b + h, c, f + g, g, 2 * a + h);
            }
        }

        /** A 'pair' is read as a x + b y + c z and f x + g y + h z: this becomes their product. */
        void multiply() {
            fill(a * f, b * g, c * h, b * h + c * g, a * h + c * f, a * g + b * f);
        }

        int d() {
            return 4 * a * b - h * h;
        }

        /** The MATRIX has this as its determinant. */
        int e() {
            return 8 * a * b * c + 2 * f * g * h - 2 * a * f * f - 2 * b * g * g - 2 * c * h * h;
        }

        int i() {
            return 4 * b * c - f * f + 4 * a * c - g * g;
        }

        int sort() {
            return e() != 0 ? sortOfWhole() : sortOfFallen();
        }

        private int sortOfWhole() {
            if (d() > 0) {
                // Of numbers up to 99 the product leaves an int.
                return (long) e() * (a + b) < 0 ? 0 : 1;
            }
            return d() == 0 ? 2 : 3;
        }

        private int sortOfFallen() {
            if (d() != 0) {
                return d() > 0 ? 4 : 5;
            }
            if (a != 0 || b != 0 || h != 0) {
                return i() < 0 ? 6 : i() > 0 ? 7 : 8;
            }
            return f != 0 || g != 0 ? 9 : 10;
        }
    }

    /** A CONIC over the field: its numbers are 0 to p - 1. */
    private static final class Curve {
        final Form form = new Form();
        int p = FIRST_PRIME;

        void take(Sheet sheet, int conic) {
            p = sheet.prime;
            sheet.read(conic, form);
            form.reduce(p);
        }

        void becomeDual(Curve of) {
            Form m = of.form;
            p = of.p;
            form.fill(4 * m.b * m.c - m.f * m.f, 4 * m.a * m.c - m.g * m.g, 4 * m.a * m.b - m.h * m.h,
                    2 * (m.g * m.h - 2 * m.a * m.f), 2 * (m.f * m.h - 2 * m.b * m.g),
                    2 * (m.f * m.g - 2 * m.c * m.h));
            form.reduce(p);
        }

        /** Becomes one times t and other. */
        void mix(Curve one, int t, Curve other) {
            p = one.p;
            form.copy(one.form);
            form.blend(t, 1, other.form);
            form.reduce(p);
        }

        int valueAt(Triple spot) {
            int x = spot.x;
            int y = spot.y;
            int z = spot.z;
            return Field.rest(form.a * x * x + form.b * y * y + form.c * z * z
                    + form.f * y * z + form.g * z * x + form.h * x * y, p);
        }

        void polarOf(Triple spot, Triple line) {
            int x = spot.x;
            int y = spot.y;
            int z = spot.z;
            line.fill(2 * form.a * x + form.h * y + form.g * z,
                    form.h * x + 2 * form.b * y + form.f * z,
                    form.g * x + form.f * y + 2 * form.c * z);
        }

        int rank() {
            if (form.isZero()) {
                return 0;
            }
            if (Field.rest(form.e(), p) != 0) {
                return 3;
            }
            return sideMinor() != 0 ? 2 : 1;
        }

        int kind() {
            int rank = rank();
            if (rank == 3) {
                return PROPER;
            }
            if (rank < 2) {
                return rank == 1 ? LINE_TWICE : VOID;
            }
            return Field.isSquare(-sideMinor(), p) ? TWO_LINES : ONE_POINT;
        }

        /**
         * The first of the ADJOINT's three numbers on its diagonal that is not 0; 0 if all are. These
         * three tell the whole where the determinant is 0: the ADJOINT is then a number times
         * the squares and products of one triple's numbers. A LINE that does not go through the POINT
         * of a CONIC of RANK 2 meets it where just such a number, taken below 0, is a square.
         */
        private int sideMinor() {
            int first = Field.rest(4 * form.b * form.c - form.f * form.f, p);
            if (first != 0) {
                return first;
            }
            int second = Field.rest(4 * form.a * form.c - form.g * form.g, p);
            return second != 0 ? second : Field.rest(form.d(), p);
        }

        int points() {
            switch (kind()) {
                case VOID:
                    return Field.points(p);
                case TWO_LINES:
                    return 2 * p + 1;
                case ONE_POINT:
                    return 1;
                default:
                    return p + 1;
            }
        }

        int lines() {
            switch (kind()) {
                case VOID:
                    return Field.points(p);
                case LINE_TWICE:
                    return 1;
                case TWO_LINES:
                    return 2;
                default:
                    return 0;
            }
        }

        /**
         * In how many POINTS a LINE meets it, the LINE's first number that is not 0 being 1: with that
         * one of x, y, z told by the others, the numbers of two squares and a product are left.
         */
        int crossings(Triple line) {
            int v = line.y;
            int w = line.z;
            if (line.x != 0) {
                return zeros(form.a * v * v + form.b - form.h * v,
                        2 * form.a * v * w + form.f - form.g * v - form.h * w,
                        form.a * w * w + form.c - form.g * w);
            }
            if (v != 0) {
                return zeros(form.a, form.g - form.h * w, form.b * w * w + form.c - form.f * w);
            }
            return zeros(form.a, form.h, form.b);
        }

        /** How many (s : t) there are with first ss + middle st + last tt = 0. */
        private int zeros(int first, int middle, int last) {
            int one = Field.rest(first, p);
            int two = Field.rest(middle, p);
            int three = Field.rest(last, p);
            if (one == 0 && two == 0 && three == 0) {
                return p + 1;
            }
            int test = Field.rest(two * two - 4 * one * three, p);
            if (test == 0) {
                return 1;
            }
            return Field.isSquare(test, p) ? 2 : 0;
        }

        /** Whether neither is the other times a number, both being not VOID. */
        boolean isUnlike(Curve other) {
            for (int i = 0; i < NUMBERS; i++) {
                for (int j = i + 1; j < NUMBERS; j++) {
                    int minor = form.nth(i) * other.form.nth(j) - form.nth(j) * other.form.nth(i);
                    if (Field.rest(minor, p) != 0) {
                        return true;
                    }
                }
            }
            return false;
        }
    }

    /** The PENCIL of two CONICS, and room for one of its MEMBERS. */
    private static final class Pencil {
        final Curve one = new Curve();
        final Curve other = new Curve();
        final Curve mixed = new Curve();
        private final Triple spot = new Triple();
        private final Triple line = new Triple();

        /** Whether there is a PENCIL of the two. */
        boolean take(Sheet sheet, int first, int second) {
            one.take(sheet, first);
            other.take(sheet, second);
            return !one.form.isZero() && !other.form.isZero() && one.isUnlike(other);
        }

        /** Whether there is a MEMBER t; it comes into mixed then. */
        boolean takeMember(int t) {
            if (t < 0 || t > one.p) {
                return false;
            }
            if (t < one.p) {
                mixed.mix(one, t, other);
            } else {
                mixed.p = one.p;
                mixed.form.copy(one.form);
            }
            return true;
        }

        int fallen() {
            int found = 0;
            for (int t = 0; t <= one.p; t++) {
                if (takeMember(t) && mixed.kind() != PROPER) {
                    found++;
                }
            }
            return found;
        }

        int sizeOfBase() {
            int found = 0;
            for (int number = 0; number < Field.points(one.p); number++) {
                if (isOfBase(number)) {
                    found++;
                }
            }
            return found;
        }

        int nthOfBase(int k) {
            int left = k;
            for (int number = 0; number < Field.points(one.p); number++) {
                if (isOfBase(number)) {
                    if (left == 0) {
                        return number;
                    }
                    left--;
                }
            }
            return NONE;
        }

        /** At how many POINTS of BASE both have one TANGENT. */
        int touching() {
            if (one.kind() != PROPER || other.kind() != PROPER) {
                return NONE;
            }
            int found = 0;
            for (int number = 0; number < Field.points(one.p); number++) {
                if (isOfBase(number) && polarAtSpot(one) == polarAtSpot(other)) {
                    found++;
                }
            }
            return found;
        }

        int firstThrough(Triple point) {
            for (int t = 0; t <= one.p; t++) {
                if (takeMember(t) && mixed.valueAt(point) == 0) {
                    return t;
                }
            }
            return NONE;
        }

        private boolean isOfBase(int number) {
            return spot.take(number, one.p) && one.valueAt(spot) == 0 && other.valueAt(spot) == 0;
        }

        private int polarAtSpot(Curve of) {
            of.polarOf(spot, line);
            return line.numbered(of.p);
        }
    }

    /** CONICS of which all sums make up the FAMILY: the first ones of base, as many as are FREE. */
    private static final class Family {
        private final Curve[] base = new Curve[NUMBERS];
        private final Triple spot = new Triple();
        int free = NUMBERS;

        Family() {
            for (int i = 0; i < NUMBERS; i++) {
                base[i] = new Curve();
            }
        }

        void gather(Sheet sheet) {
            free = NUMBERS;
            for (int i = 0; i < NUMBERS; i++) {
                base[i].p = sheet.prime;
                base[i].form.fill(0, 0, 0, 0, 0, 0);
                base[i].form.change(i, 1);
            }
            for (int k = 0; k < sheet.markCount; k++) {
                if (spot.take(sheet.markAt(k), sheet.prime)) {
                    pass();
                }
            }
        }

        boolean isLessBy(Triple point) {
            return firstOff(point) != NONE;
        }

        /** The one CONIC, where FREE is 1. */
        void readOne(Form out) {
            Form one = base[0].form;
            int p = base[0].p;
            int lead = 0;
            for (int i = 0; i < NUMBERS && lead == 0; i++) {
                lead = one.nth(i);
            }
            out.copy(one);
            out.blend(Field.inverse(lead, p), 0, one);
            out.reduce(p);
        }

        private int firstOff(Triple point) {
            for (int i = 0; i < free && i < NUMBERS; i++) {
                if (base[i].valueAt(point) != 0) {
                    return i;
                }
            }
            return NONE;
        }

        /** What of the FAMILY goes through spot, too: one CONIC off it leaves, having mended the others. */
        private void pass() {
            int off = firstOff(spot);
            if (off < 0 || off >= free || free > NUMBERS) {
                return;
            }
            free--;
            Curve left = base[off];
            base[off] = base[free];
            base[free] = left;
            int value = left.valueAt(spot);
            for (int i = 0; i < free; i++) {
                base[i].form.blend(value, -base[i].valueAt(spot), left.form);
                base[i].form.reduce(base[i].p);
            }
        }
    }

    /** What acts change: the PRIME, the MARKED POINTS and the CONICS. */
    private static final class Sheet {
        int prime;
        int markCount;
        private final int[] marks = new int[MOST_MARKED];
        private final int[] numbers = new int[CONICS * NUMBERS];

        Sheet() {
            clear();
        }

        /** All as at first. */
        void clear() {
            prime = FIRST_PRIME;
            markCount = 0;
            for (int k = 0; k < numbers.length; k++) {
                numbers[k] = k % NUMBERS == 0 ? 1 : 0;
            }
        }

        void copy(Sheet other) {
            prime = other.prime;
            markCount = other.markCount;
            System.arraycopy(other.marks, 0, marks, 0, MOST_MARKED);
            System.arraycopy(other.numbers, 0, numbers, 0, CONICS * NUMBERS);
        }

        void changePrime(int p) {
            if (p != prime) {
                prime = p;
                markCount = 0;
            }
        }

        int markAt(int k) {
            return k >= 0 && k < markCount && k < MOST_MARKED ? marks[k] : NONE;
        }

        boolean isMarked(int point) {
            for (int k = 0; k < markCount; k++) {
                if (markAt(k) == point) {
                    return true;
                }
            }
            return false;
        }

        void addMark(int point) {
            if (markCount >= 0 && markCount < MOST_MARKED) {
                marks[markCount] = point;
                markCount++;
            }
        }

        void dropMark(int point) {
            int kept = 0;
            for (int k = 0; k < markCount && k < MOST_MARKED; k++) {
                if (marks[k] != point) {
                    marks[kept] = marks[k];
                    kept++;
                }
            }
            markCount = kept;
        }

        void read(int conic, Form out) {
            if (isConic(conic)) {
                int at = conic * NUMBERS;
                out.fill(numbers[at], numbers[at + 1], numbers[at + 2],
                        numbers[at + 3], numbers[at + 4], numbers[at + 5]);
            }
        }

        void write(int conic, Form in) {
            if (isConic(conic)) {
                for (int i = 0; i < NUMBERS; i++) {
                    numbers[conic * NUMBERS + i] = in.nth(i);
                }
            }
        }
    }

    /** The sheets before the latest acts, in a ring: a new one takes the oldest one's place. */
    private static final class Past {
        private final Sheet[] ring = new Sheet[MOST_UNDONE];
        private int next = 0;
        int size = 0;

        Past() {
            for (int k = 0; k < MOST_UNDONE; k++) {
                ring[k] = new Sheet();
            }
        }

        void keep(Sheet sheet) {
            if (next < 0 || next >= MOST_UNDONE) {
                return;
            }
            ring[next].copy(sheet);
            next = next + 1 < MOST_UNDONE ? next + 1 : 0;
            size = Math.min(size + 1, MOST_UNDONE);
        }

        boolean giveBack(Sheet sheet) {
            int latest = next > 0 ? next - 1 : MOST_UNDONE - 1;
            if (size == 0 || latest >= MOST_UNDONE) {
                return false;
            }
            sheet.copy(ring[latest]);
            next = latest;
            size--;
            return true;
        }

        void forget() {
            size = 0;
        }
    }

    /** The bytes that are fed and not yet taken. */
    private static final class Tape {
        private final byte[] bytes = new byte[TAPE_BYTES];
        int length = 0;

        void addFour(int four) {
            for (int shift = 24; shift >= 0; shift -= 8) {
                if (length >= 0 && length < TAPE_BYTES) {
                    bytes[length] = (byte) (four >>> shift);
                    length++;
                }
            }
        }

        /** The byte at a place, 0 to 255; NONE behind the end. */
        int byteAt(int place) {
            return place >= 0 && place < length && place < TAPE_BYTES ? bytes[place] & 255 : NONE;
        }

        void copy(Tape other) {
            length = other.length;
            System.arraycopy(other.bytes, 0, bytes, 0, TAPE_BYTES);
        }
    }

    /** All that is, but for the images and what can be UNDONE. */
    private static final class Moment {
        final Sheet sheet = new Sheet();
        final Tape tape = new Tape();
        int fault = 0;
        int faultPlace = NONE;
        int reason = 0;
        int cause = 0;

        void copy(Moment other) {
            sheet.copy(other.sheet);
            tape.copy(other.tape);
            fault = other.fault;
            faultPlace = other.faultPlace;
            reason = other.reason;
            cause = other.cause;
        }
    }

    /** Does a TEXT on a sheet of its own, which counts only if there was no FAULT. */
    private static final class Reader {
        private static final int END = 0;
        private static final int WORD = 1;
        private static final int DIGITS = 2;
        private static final int MINUS = 3;
        private static final int SEMICOLON = 4;
        private static final int STRANGE = 5;
        private static final int MOST_DIGITS = 3;

        private static final int PRIME_LINE = 0;
        private static final int POINT_LINE = 1;
        private static final int CONIC_LINE = 2;
        private static final int PAIR_LINE = 3;

        private static final int NO_TEXT_GOES_ON = 1;
        private static final int NUMBER_CANT_BE = 2;
        private static final int LINE_CANT_BE = 3;

        final Sheet draft = new Sheet();
        int fault = 0;
        int faultPlace = NONE;
        private final Form form = new Form();
        private final Triple spot = new Triple();
        private int at = 0;
        private int token = END;
        private int start = 0;
        private int value = 0;

        /** How many LINES; NONE with a FAULT. */
        int read(Tape tape) {
            draft.clear();
            fault = 0;
            faultPlace = NONE;
            at = 0;
            int lines = 0;
            for (int turn = 0; turn < TAPE_BYTES; turn++) {
                advance(tape);
                if (token == END) {
                    return lines;
                }
                if (!readLine(tape)) {
                    return NONE;
                }
                lines++;
            }
            return lines;
        }

        private boolean fail(int what, int where) {
            fault = what;
            faultPlace = where;
            return false;
        }

        private boolean readLine(Tape tape) {
            int word = start;
            int kind = lineKind(tape);
            if (kind == NONE) {
                return fail(NO_TEXT_GOES_ON, start);
            }
            advance(tape);
            if (token != DIGITS) {
                return fail(NO_TEXT_GOES_ON, start);
            }
            int which = value;
            if (!canBe(kind, which)) {
                return fail(NUMBER_CANT_BE, start);
            }
            if ((kind == CONIC_LINE || kind == PAIR_LINE) && !readSix(tape)) {
                return false;
            }
            advance(tape);
            if (token != SEMICOLON) {
                return fail(NO_TEXT_GOES_ON, start);
            }
            return carryOut(kind, which) || fail(LINE_CANT_BE, word);
        }

        private int lineKind(Tape tape) {
            if (tokenIs(tape, "prime")) {
                return PRIME_LINE;
            }
            if (tokenIs(tape, "point")) {
                return POINT_LINE;
            }
            if (tokenIs(tape, "conic")) {
                return CONIC_LINE;
            }
            return tokenIs(tape, "pair") ? PAIR_LINE : NONE;
        }

        private boolean canBe(int kind, int number) {
            if (kind == PRIME_LINE) {
                return isPrime(number);
            }
            return kind == POINT_LINE ? spot.take(number, draft.prime) : isConic(number);
        }

        /** Six times ['-'] N, into form. */
        private boolean readSix(Tape tape) {
            for (int i = 0; i < NUMBERS; i++) {
                advance(tape);
                boolean below = token == MINUS;
                if (below) {
                    advance(tape);
                }
                if (token != DIGITS) {
                    return fail(NO_TEXT_GOES_ON, start);
                }
                if (value > LIMIT) {
                    return fail(NUMBER_CANT_BE, start);
                }
                form.change(i, below ? -value : value);
            }
            return true;
        }

        private boolean carryOut(int kind, int which) {
            if (kind == PRIME_LINE) {
                draft.changePrime(which);
                return true;
            }
            if (kind == POINT_LINE) {
                boolean free = !draft.isMarked(which) && draft.markCount < MOST_MARKED;
                if (free) {
                    draft.addMark(which);
                }
                return free;
            }
            if (kind == PAIR_LINE) {
                form.multiply();
            }
            boolean fits = !form.isZero() && form.isWithinLimit();
            if (fits) {
                draft.write(which, form);
            }
            return fits;
        }

        private void advance(Tape tape) {
            skipBlanks(tape);
            start = at;
            int first = tape.byteAt(at);
            if (first == NONE) {
                token = END;
            } else if (isLetter(first)) {
                takeWord(tape);
            } else if (isDigit(first)) {
                takeDigits(tape);
            } else {
                at++;
                token = first == '-' ? MINUS : first == ';' ? SEMICOLON : STRANGE;
            }
        }

        private void skipBlanks(Tape tape) {
            for (int k = 0; k < TAPE_BYTES; k++) {
                int next = tape.byteAt(at);
                if (next != 32 && next != 10) {
                    return;
                }
                at++;
            }
        }

        private void takeWord(Tape tape) {
            token = WORD;
            for (int k = 0; k < TAPE_BYTES && isLetter(tape.byteAt(at)); k++) {
                at++;
            }
        }

        private void takeDigits(Tape tape) {
            value = 0;
            for (int k = 0; k < TAPE_BYTES && isDigit(tape.byteAt(at)); k++) {
                // A longer row is no token, so its value is not asked for.
                if (k < MOST_DIGITS) {
                    value = 10 * value + tape.byteAt(at) - '0';
                }
                at++;
            }
            token = at - start <= MOST_DIGITS ? DIGITS : STRANGE;
        }

        private boolean tokenIs(Tape tape, String word) {
            if (token != WORD || at - start != word.length()) {
                return false;
            }
            for (int k = 0; k < word.length(); k++) {
                if (tape.byteAt(start + k) != word.charAt(k)) {
                    return false;
                }
            }
            return true;
        }

        private static boolean isLetter(int letter) {
            return letter >= 'a' && letter <= 'z';
        }

        private static boolean isDigit(int digit) {
            return digit >= '0' && digit <= '9';
        }
    }
}
