/** The boundaries that Promises 33 and 34 name: which images there are, what they have, and what they have not. */
public final class ImageEdgesTest {
    private static final int NONE = Edges.NONE;
    private static final int[] NO_IMAGES = {-1, 3, -2, 4, Edges.LOWEST, Edges.LOWEST + 1, Edges.HIGHEST, Edges.HIGHEST - 1,
        Edges.UNKNOWN, 256, 257, 1 << 16};

    public static void main(String[] args) {
        threeImages();
        noOtherImage();
        againOfNone();
        againOfEachThatIs();
        hasThePrime();
        hasWhatIsMarked();
        hasTheConics();
        hasTheTape();
        hasTheFault();
        hasWhy();
        hasNotWhatCanBeUndone();
        imageLeavesWhatCanBeUndone();
        takenAnew();
        imagesOfImages();
        falseLeavesAll();
        Due.end("ImageEdgesTest");
    }

    private static void threeImages() {
        Due.sentence("Promise 33", "Image k (0 .. 2) is all that is .. as it is now: true");
        ConicDesk desk = new ConicDesk();
        for (int k = 0; k < 3; k++) {
            Due.is("set", desk.set(0, 1, 10 + k), 0);
            Due.holds("image(" + k + ")", desk.image(k));
        }
        Due.is("set", desk.set(0, 1, 50), 0);
        for (int k = 2; k >= 0; k--) {
            Due.holds("again(" + k + ")", desk.again(k));
            Due.is("each has its own", desk.conic(0, 11), 10 + k);
        }
    }

    private static void noOtherImage() {
        Due.sentence("Promise 33", "false for another k.");
        ConicDesk desk = new ConicDesk();
        for (int k : NO_IMAGES) {
            Due.fails("image(" + k + ")", desk.image(k));
            Due.fails("again(" + k + ")", desk.again(k));
        }
        for (int k = 0; k < 3; k++) {
            Due.fails("there is no image " + k + " of it", desk.again(k));
        }
    }

    private static void againOfNone() {
        Due.sentence("Promise 34", "false if there is none such.");
        Due.sentence("Promise 1", "no images");
        for (int taken = 0; taken < 8; taken++) {
            ConicDesk desk = new ConicDesk();
            for (int k = 0; k < 3; k++) {
                if ((taken >> k & 1) == 1) {
                    Due.holds("image(" + k + ")", desk.image(k));
                }
            }
            for (int k : NO_IMAGES) {
                Due.fails("again(" + k + ")", desk.again(k));
            }
            for (int k = 0; k < 3; k++) {
                Due.is("again(" + k + ") of " + taken, desk.again(k) ? 1 : 0, taken >> k & 1);
            }
        }
    }

    private static void againOfEachThatIs() {
        Due.sentence("Promise 34", "All that is is as image k has it .. : true");
        ConicDesk desk = new ConicDesk();
        Due.holds("image(1) of a new one", desk.image(1));
        Due.is("set", desk.set(5, 5, -99), 0);
        Due.holds("again(1)", desk.again(1));
        Due.is("as at first", desk.conic(5, 15), 0);
        Due.holds("again(1), once more", desk.again(1));
        Due.is("as at first", desk.conic(5, 15), 0);
    }

    private static void hasThePrime() {
        Due.sentence("Promise 33", "all that is", "the PRIME");
        for (int p : Edges.PRIMES) {
            ConicDesk desk = new ConicDesk();
            desk.prime(p);
            desk.image(0);
            desk.prime(p == 3 ? 23 : 3);
            Due.holds("again", desk.again(0));
            Due.is("the prime", desk.count(0), p);
            Due.is("so already", desk.prime(p), 2);
        }
    }

    private static void hasWhatIsMarked() {
        Due.sentence("Promise 33", "all that is", "what is MARKED");
        for (int marks = 0; marks <= 8; marks++) {
            ConicDesk desk = new ConicDesk();
            for (int k = 0; k < marks; k++) {
                desk.mark(56 - k, false);
            }
            desk.image(2);
            desk.mark(marks == 8 ? 50 : 3, marks == 8);
            desk.prime(5);
            desk.mark(30, false);
            Due.holds("again", desk.again(2));
            Due.is("count(2)", desk.count(2), marks);
            for (int k = 0; k < 8; k++) {
                Due.is("marked(" + k + ") of " + marks, desk.marked(k), k < marks ? 56 - k : NONE);
            }
        }
    }

    private static void hasTheConics() {
        Due.sentence("Promise 33", "all that is", "the CONICS");
        for (int conic = 0; conic < 6; conic++) {
            ConicDesk desk = Edges.desk(Edges.conic(conic, -99, 99, -1, 1, 2, 3));
            desk.image(1);
            for (int i = 0; i < 6; i++) {
                desk.set(conic, i, 50 + i);
            }
            desk.set((conic + 1) % 6, 0, 9);
            Due.holds("again", desk.again(1));
            Due.numbers("as they were", desk, conic, -99, 99, -1, 1, 2, 3);
            Due.numbers("as at first", desk, (conic + 1) % 6, 1, 0, 0, 0, 0, 0);
        }
    }

    private static void hasTheTape() {
        Due.sentence("Promise 33", "(the tape");
        for (int lines : new int[] {0, 1, 71}) {
            ConicDesk desk = new ConicDesk();
            Due.feed(desk, Edges.repeated("prime7;", lines));
            desk.image(0);
            Due.is("the tape is taken", desk.text(), lines);
            Due.feed(desk, Edges.repeated("prime 9;", 20));
            Due.holds("again", desk.again(0));
            Due.is("count(5)", desk.count(5), 7 * lines);
            Due.is("end beyond", desk.end(7 * lines + 1), NONE);
            Due.is("its bytes", desk.text(), lines);
            Due.is("its bytes have no fault", desk.fault(0), 0);
        }
        ConicDesk full = new ConicDesk();
        Due.feed(full, Edges.repeated(" ", 499) + "!");
        full.image(0);
        full.end(0);
        Due.feed(full, Edges.repeated("a", 500));
        Due.holds("again", full.again(0));
        Due.is("count(5)", full.count(5), 500);
        Due.is("text", full.text(), NONE);
        Due.is("its last byte", full.fault(1), 499);
    }

    private static void hasTheFault() {
        Due.sentence("Promise 33", "the FAULT");
        String[] texts = {"", "x", " prime 9;", "  conic 0 0 0 0 0 0 0;"};
        for (int was = 0; was < 4; was++) {
            for (int is = 0; is < 4; is++) {
                ConicDesk desk = new ConicDesk();
                Due.text(desk, texts[was]);
                desk.image(0);
                Due.text(desk, texts[is]);
                Due.holds("again", desk.again(0));
                Due.is("fault(0) of '" + texts[was] + "'", desk.fault(0), was);
                Due.is("fault(1) of '" + texts[was] + "'", desk.fault(1), new int[] {NONE, 0, 7, 2}[was]);
            }
        }
    }

    private static void hasWhy() {
        Due.sentence("Promise 33", "WHY, too");
        for (int was = 0; was < 4; was++) {
            for (int is = 0; is < 4; is++) {
                ConicDesk desk = new ConicDesk();
                refuse(desk, was);
                desk.image(2);
                refuse(desk, is);
                Due.holds("again", desk.again(2));
                Due.is("why(0)", desk.why(0), new int[] {0, 1, 5, 10}[was]);
                Due.is("why(1)", desk.why(1), new int[] {0, 0, 7, 11}[was]);
            }
        }
    }

    private static void refuse(ConicDesk desk, int how) {
        if (how == 0) {
            desk.set(3, 1, desk.conic(3, 11) + 1);
        } else if (how == 1) {
            desk.prime(9);
        } else if (how == 2) {
            desk.turn(0, 0);
        } else {
            desk.through(0);
        }
    }

    private static void hasNotWhatCanBeUndone() {
        Due.sentence("Promise 34", "(nothing can be UNDONE then)");
        Due.sentence("Promise 33", "but for what can be UNDONE");
        for (int before = 0; before <= 9; before += 3) {
            for (int behind = 0; behind <= 9; behind += 3) {
                ConicDesk desk = new ConicDesk();
                for (int k = 0; k < before; k++) {
                    desk.set(0, 1, k + 1);
                }
                desk.image(1);
                for (int k = 0; k < behind; k++) {
                    desk.set(0, 1, k + 50);
                }
                Due.is("count(4)", desk.count(4), Math.min(8, before + behind));
                Due.holds("again", desk.again(1));
                Due.is("count(4)", desk.count(4), 0);
                Due.is("undo", desk.undo(), NONE);
                Due.is("as it was", desk.conic(0, 11), before);
                Due.is("an act behind it", desk.set(0, 1, 99), 0);
                Due.is("count(4)", desk.count(4), 1);
                Due.is("undo", desk.undo(), 0);
                Due.is("undo", desk.undo(), NONE);
                Due.is("as it was", desk.conic(0, 11), before);
            }
        }
    }

    private static void imageLeavesWhatCanBeUndone() {
        Due.sentence("Promise 33", "Image k (0 .. 2) is all that is .. as it is now");
        ConicDesk desk = new ConicDesk();
        for (int k = 1; k <= 3; k++) {
            Due.is("set", desk.set(0, 1, k), 0);
        }
        Due.refused("turn", desk, desk.turn(0, 5), 5, 7);
        Due.feed(desk, "prime 3;");
        Due.holds("image", desk.image(0));
        Due.is("count(4)", desk.count(4), 3);
        Due.is("count(5)", desk.count(5), 8);
        Due.is("why(1)", desk.why(1), 7);
        Due.is("undo", desk.undo(), 2);
        Due.is("as before", desk.conic(0, 11), 2);
        Due.is("the tape", desk.text(), 1);
        Due.is("text leaves the images", desk.again(0) ? 1 : 0, 1);
        Due.is("what is undone behind it is not undone in it", desk.conic(0, 11), 3);
    }

    private static void takenAnew() {
        Due.sentence("Promise 33", "as it is now: true");
        ConicDesk desk = new ConicDesk();
        for (int k = 1; k <= 5; k++) {
            Due.is("set", desk.set(0, 1, k), 0);
            Due.holds("image(0)", desk.image(0));
        }
        Due.is("set", desk.set(0, 1, 9), 0);
        Due.holds("again(0)", desk.again(0));
        Due.is("the latest", desk.conic(0, 11), 5);
        Due.fails("again(1)", desk.again(1));
    }

    private static void imagesOfImages() {
        Due.sentence("Promise 34", "All that is is as image k has it");
        ConicDesk desk = new ConicDesk();
        desk.set(0, 1, 1);
        desk.image(0);
        desk.set(0, 1, 2);
        desk.image(1);
        Due.holds("again(0)", desk.again(0));
        Due.holds("images are no part of it", desk.again(1));
        Due.is("image 1", desk.conic(0, 11), 2);
        Due.holds("again(0)", desk.again(0));
        desk.set(0, 1, 3);
        Due.holds("what is done behind it is not in it", desk.again(0));
        Due.is("image 0", desk.conic(0, 11), 1);
        Due.holds("image(2), of image 0", desk.image(2));
        desk.set(0, 1, 4);
        desk.image(0);
        Due.holds("again(2)", desk.again(2));
        Due.is("image 2", desk.conic(0, 11), 1);
    }

    private static void falseLeavesAll() {
        Due.sentence("Promise 34", "false if there is none such.");
        ConicDesk desk = new ConicDesk();
        desk.set(0, 1, 1);
        desk.image(1);
        desk.set(0, 1, 2);
        for (int k : new int[] {-1, 0, 2, 3}) {
            Due.fails("again(" + k + ")", desk.again(k));
            Due.is("all is as it is", desk.conic(0, 11), 2);
            Due.is("count(4)", desk.count(4), 2);
        }
        Due.fails("image(3)", desk.image(3));
        Due.is("undo", desk.undo(), 1);
        Due.holds("again(1)", desk.again(1));
        Due.is("image 1", desk.conic(0, 11), 1);
    }
}
