/** The boundaries that "Terms" 3 and Promises 2 to 5 name: the tape's bytes, TOKENS, a TEXT, FAULTS and their places. */
public final class TapeEdgesTest {
    private static final int NONE = Edges.NONE;
    private static final int LOWEST = Edges.LOWEST;
    private static final int HIGHEST = Edges.HIGHEST;
    private static final String T3 = "Terms 3";
    private static final int BLANK = 0x20202020;

    public static void main(String[] args) {
        fiveHundredBytes();
        twentyBytesInOrder();
        bytesOfAllNumbers();
        noFeedBeyond();
        noFeedLeavesTheBytes();
        firstBytesAlone();
        noSuchEnd();
        blanks();
        words();
        digits();
        oneByteEach();
        anyByte();
        linesAndTheirEnds();
        eachLineWhole();
        sixOfF();
        signs();
        lineByLine();
        allAsAtFirst();
        faultOfTokens();
        faultOfLongRows();
        faultOfNumbers();
        faultOfBeyond99();
        faultOfConics();
        faultOfPairs();
        faultOfPoints();
        firstThatIsMet();
        ofOnePlaceTheLeast();
        placesOfTheEnd();
        taken();
        whyStaysAndNothingIsUndone();
        howManyLines();
        faultLeavesAllElse();
        faultOfTheLatest();
        faultOfAnotherWhat();
        Due.end("TapeEdgesTest");
    }

    private static int feedBlanks(ConicDesk desk) {
        return desk.feed(BLANK, BLANK, BLANK, BLANK, BLANK);
    }

    private static ConicDesk fed(int times) {
        ConicDesk desk = new ConicDesk();
        for (int k = 1; k <= times; k++) {
            Due.is("feed " + k, feedBlanks(desk), 20 * k);
        }
        return desk;
    }

    private static void fiveHundredBytes() {
        Due.sentence(T3, "THE TAPE has at most 500 bytes.");
        ConicDesk desk = fed(25);
        Due.is("the tape", desk.count(5), 500);
        Due.is("feed beyond", feedBlanks(desk), NONE);
        Due.is("end of all", desk.end(500), 500);
        Due.is("the last byte counts", Due.text(Edges.desk(""), Edges.repeated(" ", 492) + "prime 3;"), 1);
        Due.is("a text of 500 blanks", desk.text(), 0);
        Due.is("there is room for 500 more", feedBlanks(desk), 20);
    }

    private static void twentyBytesInOrder() {
        Due.sentence("Promise 2", "twenty bytes come behind it, of each number the highest first");
        // One byte with which no text goes on, in each of the twenty places, behind other bytes and before them.
        for (int place = 0; place < 20; place++) {
            for (int strange : new int[] {'!', 0x80, 0xff, 0}) {
                int[] fours = {BLANK, BLANK, BLANK, BLANK, BLANK};
                int shift = 24 - 8 * (place % 4);
                fours[place / 4] = fours[place / 4] & ~(255 << shift) | strange << shift;
                ConicDesk desk = fed(1);
                Due.is("feed", desk.feed(fours[0], fours[1], fours[2], fours[3], fours[4]), 40);
                Due.is("text", desk.text(), NONE);
                Due.is("fault(0) of byte " + strange, desk.fault(0), 1);
                Due.is("place of byte " + strange, desk.fault(1), 20 + place);
            }
        }
    }

    private static void bytesOfAllNumbers() {
        Due.sentence("Promise 2", "The tape: .. how many it has.");
        int[] numbers = {LOWEST, HIGHEST, 0, -1, 1, LOWEST + 1, HIGHEST - 1, Edges.UNKNOWN};
        for (int number : numbers) {
            ConicDesk desk = new ConicDesk();
            Due.is("feed of " + number, desk.feed(number, number, number, number, number), 20);
            Due.is("count(5)", desk.count(5), 20);
            Due.is("end(20)", desk.end(20), 20);
            Due.is("text", desk.text(), NONE);
            Due.is("fault(1)", desk.fault(1), 0);
        }
    }

    private static void noFeedBeyond() {
        Due.sentence("Promise 2", "NONE, and nothing comes, if there would be more than 500.");
        for (int left = 476; left <= 484; left++) {
            ConicDesk desk = fed(25);
            Due.is("end(" + left + ")", desk.end(left), left);
            boolean fits = left <= 480;
            Due.is("feed behind " + left, feedBlanks(desk), fits ? left + 20 : NONE);
            Due.is("count(5)", desk.count(5), fits ? left + 20 : left);
            Due.is("once more", feedBlanks(desk), NONE);
            Due.is("count(5)", desk.count(5), fits ? left + 20 : left);
        }
        ConicDesk full = fed(25);
        Due.is("feed of the lowest", full.feed(LOWEST, HIGHEST, 0, -1, 1), NONE);
        Due.is("count(5)", full.count(5), 500);
    }

    private static void noFeedLeavesTheBytes() {
        Due.sentence("Promise 2", "NONE, and nothing comes");
        ConicDesk desk = fed(24);
        Due.is("feed 'prime 3;', the rest blank",
            desk.feed(0x7072696d, 0x6520333b, BLANK, BLANK, BLANK), 500);
        Due.is("end(488)", desk.end(488), 488);
        Due.is("feed of others", desk.feed(0x21212121, 0x21212121, 0x21212121, 0x21212121, 0x21212121), NONE);
        Due.is("end(489)", desk.end(489), NONE);
        Due.is("text", desk.text(), 1);
        Due.is("the bytes before are there", desk.count(0), 3);
    }

    private static void firstBytesAlone() {
        Due.sentence("Promise 3", "The tape has its first n bytes alone: n.");
        for (int n : new int[] {0, 1, 19, 20, 21, 39, 40}) {
            ConicDesk desk = fed(2);
            Due.is("end(" + n + ") of 40", desk.end(n), n);
            Due.is("count(5)", desk.count(5), n);
            Due.is("end(" + n + ") again", desk.end(n), n);
            Due.is("end(" + (n + 1) + ")", desk.end(n + 1), NONE);
            Due.is("feed behind it", feedBlanks(desk), n + 20);
        }
        ConicDesk desk = new ConicDesk();
        Due.feed(desk, "prime 3;prime 5;");
        Due.is("end(8)", desk.end(8), 8);
        Due.is("feed ' point 0;' and blanks", desk.feed(0x20706f69, 0x6e742030, 0x3b202020, BLANK, BLANK), 28);
        Due.is("what is behind the 8th is what came last", desk.text(), 2);
        Due.is("the first line", desk.count(0), 3);
        Due.is("the last line", desk.marked(0), 0);
    }

    private static void noSuchEnd() {
        Due.sentence("Promise 3", "NONE if it has not so many, or n is below 0.");
        int[] below = {-1, -2, -20, LOWEST, LOWEST + 1, Edges.UNKNOWN};
        int[] above = {21, 40, 500, 501, HIGHEST, HIGHEST - 1, 256 + 20, (1 << 16) + 20};
        ConicDesk desk = fed(1);
        for (int n : below) {
            Due.is("end(" + n + ")", desk.end(n), NONE);
            Due.is("count(5)", desk.count(5), 20);
        }
        for (int n : above) {
            Due.is("end(" + n + ")", desk.end(n), NONE);
            Due.is("count(5)", desk.count(5), 20);
        }
        ConicDesk empty = new ConicDesk();
        Due.is("end(0) of none", empty.end(0), 0);
        Due.is("end(1) of none", empty.end(1), NONE);
        Due.is("end(-1) of none", empty.end(-1), NONE);
        ConicDesk full = fed(25);
        Due.is("end(501) of 500", full.end(501), NONE);
        Due.is("end(500) of 500", full.end(500), 500);
        Due.is("end(499) of 500", full.end(499), 499);
        Due.is("end(500) of 499", full.end(500), NONE);
    }

    private static void blanks() {
        Due.sentence(T3, "blanks (32, 10) between");
        for (int blank = 0; blank < 256; blank++) {
            String sign = String.valueOf((char) blank);
            boolean can = blank == 32 || blank == 10;
            String told = "prime" + sign + sign + "3" + sign + ";";
            if (can) {
                Due.taken(told, 1);
                Due.taken(sign + told + sign + told + sign, 2);
                Due.taken("conic" + sign + "0" + sign + "-" + sign + "1 0 0 0 0 0;", 1);
            } else if (blank >= 'a' && blank <= 'z') {
                Due.faulty(told, 1, 0);
            } else {
                Due.faulty(told, 1, 5);
            }
        }
    }

    private static void words() {
        Due.sentence(T3, "TOKENS, as long as they go, .. : words, letters a to z");
        for (String word : new String[] {"prime 3", "point 3", "conic 0 1 1 1 1 1 1", "pair 0 1 1 1 1 1 1"}) {
            int end = word.indexOf(' ');
            Due.taken(word + ";", 1);
            for (int sign = 0; sign < 256; sign++) {
                boolean letter = sign >= 'a' && sign <= 'z';
                boolean digit = sign >= '0' && sign <= '9';
                boolean blank = sign == 32 || sign == 10;
                String longer = word.substring(0, end) + (char) sign + word.substring(end) + ";";
                if (letter) {
                    Due.faulty(longer, 1, 0);
                } else if (!blank && !digit) {
                    Due.faulty(longer, 1, end);
                }
                String before = (char) sign + word + ";";
                if (!blank) {
                    Due.faulty(before, 1, 0);
                }
                for (int k = 0; k < end; k++) {
                    String within = word.substring(0, k) + (char) sign + word.substring(k + 1) + ";";
                    if (sign != word.charAt(k) && (k > 0 || !blank)) {
                        Due.faulty(within, 1, 0);
                    }
                }
            }
            for (int length = 1; length < end; length++) {
                Due.faulty(word.substring(0, length) + word.substring(end) + ";", 1, 0);
                Due.faulty(word.substring(length) + ";", 1, 0);
                Due.faulty(word.substring(0, length) + " " + word.substring(length) + ";", 1, 0);
            }
            Due.faulty(word.substring(0, 1).toUpperCase() + word.substring(1) + ";", 1, 0);
            Due.faulty(word.toUpperCase() + ";", 1, 0);
        }
        Due.faulty("line 0;", 1, 0);
        Due.faulty("a", 1, 0);
        Due.faulty("z", 1, 0);
        Due.faulty(Edges.repeated("prime", 100), 1, 0);
    }

    private static void digits() {
        Due.sentence(T3, "NUMBERS, 1 to 3 digits");
        Due.taken("point 0;", 1);
        Due.taken("point 9;", 1);
        Due.taken("point 00;", 1);
        Due.taken("point 56;", 1);
        Due.taken("point 000;", 1);
        Due.taken("point 056;", 1);
        Due.taken("prime 23;point 552;", 2);
        Due.is("as a 3-digit one", Edges.desk("prime 011;point 099;").marked(0), 99);
        Due.is("of three digits", Edges.desk("prime 23;point 498;").marked(0), 498);
        Due.is("all digits", Edges.desk("prime 23;point 123;point 456;point 078;point 90;").marked(1), 456);
        Due.is("all digits", Edges.desk("prime 23;point 123;point 456;point 078;point 90;").marked(2), 78);
        Due.is("all digits", Edges.desk("prime 23;point 123;point 456;point 078;point 90;").marked(3), 90);
        Due.taken("conic 000 001 099 -099 000 -000 010;", 1);
        Due.faulty("point ;", 1, 6);
        Due.faulty("point 0000;", 1, 6);
        // The digits' neighbours are none.
        Due.faulty("point /;", 1, 6);
        Due.faulty("point :;", 1, 6);
        Due.faulty("point 1/;", 1, 7);
        Due.faulty("point 1:;", 1, 7);
        // A NUMBER goes as long as digits come: a blank ends it.
        Due.faulty("point 1 2;", 1, 8);
        Due.faulty("conic 0 1 0 0 0 0 0 0;", 1, 20);
    }

    private static void oneByteEach() {
        Due.sentence(T3, "- ; one byte each");
        Due.faulty("conic 0 --1 0 0 0 0 0;", 1, 9);
        Due.faulty("conic 0 - -1 0 0 0 0 0;", 1, 10);
        Due.faulty("prime 3;;", 1, 8);
        Due.faulty("prime 3; ;", 1, 9);
        Due.faulty(";", 1, 0);
        Due.faulty("-", 1, 0);
        Due.taken("conic 0-1-2-3-4-5-6;prime 3;", 2);
        // Their neighbours are none of them.
        for (String sign : new String[] {",", ".", ":", "<", "+", "_"}) {
            Due.faulty("prime 3" + sign, 1, 7);
            Due.faulty("conic 0 " + sign + "1 0 0 0 0 0;", 1, 8);
        }
    }

    private static void anyByte() {
        Due.sentence(T3, "1 a byte or token with which no text goes on");
        for (int next = 0; next < 256; next++) {
            boolean blank = next == 32 || next == 10;
            boolean digit = next >= '0' && next <= '9';
            String sign = String.valueOf((char) next);
            // Behind a NUMBER that ends a line's row, a line's end, and the line's word.
            if (!blank && next != ';') {
                Due.faulty("point 000" + sign, 1, digit ? 6 : 9);
                Due.faulty("prime 3;" + sign, 1, 8);
            }
            if (!blank && !digit) {
                Due.faulty("prime " + sign + ";", 1, 6);
                Due.faulty("conic 0 1 2 " + sign + sign + " 4 5 6;", 1, next == '-' ? 13 : 12);
            }
        }
    }

    private static void linesAndTheirEnds() {
        Due.sentence(T3, "A TEXT: {LINE ';'}");
        Due.taken("", 0);
        Due.taken(" ", 0);
        Due.taken("\n", 0);
        Due.taken("prime 3;", 1);
        Due.taken("prime 3;point 0;", 2);
        Due.faulty("prime 3", 1, 7);
        Due.faulty("prime 3 point 0;", 1, 8);
        Due.faulty("prime 3;point 0", 1, 15);
        Due.faulty(";prime 3;", 1, 0);
        Due.faulty("prime 3;;point 0;", 1, 8);
    }

    private static void eachLineWhole() {
        Due.sentence(T3, "'prime' N | 'conic' N F F F F F F .. | 'point' N .. | 'pair' N F F F F F F");
        String[] whole = {"prime", " 3", ";"};
        cutEverywhere(whole, false);
        cutEverywhere(new String[] {"point", " 3", ";"}, false);
        cutEverywhere(new String[] {"conic", " 5", " 1", " 2", " 3", " 4", " 5", " 6", ";"}, true);
        cutEverywhere(new String[] {"pair", " 5", " 1", " 2", " 3", " 4", " 5", " 6", ";"}, true);
        cutEverywhere(new String[] {"conic", " 0", " -", " 1", " -", " 2", " -", " 3", " -", " 4", " -", " 5", " -", " 6", ";"}, true);
        Due.faulty("prime -3;", 1, 6);
        Due.faulty("point -3;", 1, 6);
        Due.faulty("conic -0 1 2 3 4 5 6;", 1, 6);
        Due.faulty("pair -0 1 2 3 4 5 6;", 1, 5);
    }

    /** The line cut behind each of its tokens, and with another one there than it can go on with. */
    private static void cutEverywhere(String[] line, boolean ofF) {
        StringBuilder text = new StringBuilder();
        for (int k = 0; k < line.length; k++) {
            if (k > 0) {
                Due.faulty(text.toString(), 1, text.length());
                Due.faulty(text + "  \n", 1, text.length() + 3);
                Due.faulty(text + " x;", 1, text.length() + 1);
                Due.faulty(text + " prime 3;", 1, text.length() + 1);
                if (line[k].equals(";")) {
                    Due.faulty(text + " 1;", 1, text.length() + 1);
                } else {
                    Due.faulty(text + ";", 1, text.length());
                }
                boolean minus = ofF && k > 1 && !line[k - 1].equals(" -") && !line[k].equals(";");
                if (!minus) {
                    Due.faulty(text + " -", 1, text.length() + 1);
                }
            }
            text.append(line[k]);
        }
        Due.taken(text.toString(), 1);
    }

    private static void sixOfF() {
        Due.sentence(T3, "(which; a b c f g h)");
        for (int conic = 0; conic < 6; conic++) {
            ConicDesk desk = Edges.desk("conic " + conic + " 11 12 13 14 15 16;");
            for (int other = 0; other < 6; other++) {
                Due.is("a of " + other, desk.conic(other, 10), other == conic ? 11 : 1);
            }
            Due.numbers("told", desk, conic, 11, 12, 13, 14, 15, 16);
        }
        Due.sentence(T3, "(which; it becomes the product of two sums F x and F y and F z)");
        int[][] units = {{1, 0, 0}, {0, 1, 0}, {0, 0, 1}};
        int[][] place = {{0, 5, 4}, {5, 1, 3}, {4, 3, 2}};
        for (int i = 0; i < 3; i++) {
            for (int j = 0; j < 3; j++) {
                ConicDesk desk = Edges.desk("pair 5 " + row(units[i], 9) + " " + row(units[j], -11) + ";");
                for (int n = 0; n < 6; n++) {
                    Due.is("number " + n + " of " + i + " and " + j, desk.conic(5, 10 + n), n == place[i][j] ? -99 : 0);
                }
            }
        }
        Due.numbers("(x + 2 y + 3 z)(4 x + 5 y - 6 z)", Edges.desk("pair 0 1 2 3 4 5 -6;"), 0, 4, 10, -18, 3, 6, 13);
    }

    private static String row(int[] unit, int times) {
        return unit[0] * times + " " + unit[1] * times + " " + unit[2] * times;
    }

    private static void signs() {
        Due.sentence(T3, "F: ['-'] N");
        ConicDesk desk = Edges.desk("conic 0 -99 99 - 1 -0 0 -\n099;");
        Due.numbers("signs", desk, 0, -99, 99, -1, 0, 0, -99);
        Due.numbers("a sign is of what is behind it", Edges.desk("conic 0 1- 2 3 -4 5-6;"), 0, 1, -2, 3, -4, 5, -6);
        Due.faulty("conic 0 1 2 3 4 5 6-;", 1, 19);
        Due.faulty("conic 0 1 2 3 4 5 -;", 1, 19);
        Due.faulty("conic 0 1 2 3 4 -5 -\n;", 1, 21);
    }

    private static void lineByLine() {
        Due.sentence(T3, "It is done LINE by LINE");
        Due.taken("prime 3;point 12;", 2);
        Due.faulty("prime 3;point 13;", 2, 14);
        Due.taken("prime 3;prime 7;point 56;", 3);
        Due.faulty("prime 3;prime 7;point 57;", 2, 22);
        Due.taken("point 3;prime 3;prime 7;point 3;", 4);
        Due.faulty("point 3;prime 7;point 3;", 3, 16);
        Due.numbers("the later line", Edges.desk("conic 2 1 1 1 1 1 1;conic 2 0 0 0 0 0 -9;"), 2, 0, 0, 0, 0, 0, -9);
        Due.numbers("the later line", Edges.desk("pair 2 1 1 1 1 1 1;conic 2 7 7 7 7 7 7;"), 2, 7, 7, 7, 7, 7, 7);
        ConicDesk desk = Edges.desk("point 9;point 8;prime 5;point 30;point 9;");
        Due.is("those of the prime before are none", desk.count(2), 2);
        Due.is("marked(0)", desk.marked(0), 30);
        Due.is("marked(1)", desk.marked(1), 9);
        String eight = "point 0;point 1;point 2;point 3;point 4;point 5;point 6;point 7;";
        Due.taken(eight + "prime 5;" + eight, 17);
        Due.faulty(eight + "prime 5;" + eight + "point 8;", 3, 136);
    }

    private static void allAsAtFirst() {
        Due.sentence(T3, "all being as at first");
        ConicDesk desk = Edges.desk("prime 23;point 552;point 3;conic 4 9 9 9 9 9 9;");
        Due.is("a point of 23's plane", Due.text(desk, "point 57;"), NONE);
        Due.is("fault(0)", desk.fault(0), 2);
        Due.is("the prime stays", desk.count(0), 23);
        Due.is("a point that was marked", Due.text(desk, "point 3;"), 1);
        Due.is("the prime", desk.count(0), 7);
        Due.is("that one alone is marked", desk.count(2), 1);
        Due.is("marked(0)", desk.marked(0), 3);
        Due.numbers("not told of", desk, 4, 1, 0, 0, 0, 0, 0);
        ConicDesk eight = Edges.desk(Edges.marks(11, 0, 1, 2, 3, 4, 5, 6, 7));
        Due.is("eight were marked, eight others are", Due.text(eight, Edges.marks(7, 7, 6, 5, 4, 3, 2, 1, 56)), 9);
        Due.is("marked(0)", eight.marked(0), 7);
        Due.is("marked(7)", eight.marked(7), 56);
        ConicDesk faulty = new ConicDesk();
        Due.is("a text with a fault", Due.text(faulty, "prime 3;point 5;conic 1 2 2 2 2 2 2;x"), NONE);
        Due.is("and one behind it", Due.text(faulty, "point 5;point 56;"), 2);
        Due.is("the prime", faulty.count(0), 7);
        Due.numbers("nothing of the faulty one", faulty, 1, 1, 0, 0, 0, 0, 0);
        Due.is("an empty text", Due.text(eight, ""), 0);
        Due.is("none is marked", eight.count(2), 0);
        Due.is("the prime", eight.count(0), 7);
    }

    private static void faultOfTokens() {
        Due.sentence(T3, "FAULTS, with places (a token's first byte; the end's)");
        Due.faulty("primes 3;", 1, 0);
        Due.faulty("  \nprimes 3;", 1, 3);
        Due.faulty("prime three;", 1, 6);
        Due.faulty("prime \n three;", 1, 8);
        Due.faulty("prime 3 three;", 1, 8);
        Due.faulty("prime", 1, 5);
        Due.faulty("prime 3", 1, 7);
        Due.faulty("prime 3 \n", 1, 9);
        Due.faulty("p", 1, 0);
    }

    private static void faultOfLongRows() {
        Due.sentence(T3, "(a longer row of digits is no token)");
        String[] rows = {"0003", "0000", "1000", "9999", "00003", "99999999999", Edges.repeated("0", 400) + "3",
            "4294967299", "2147483647"};
        for (String row : rows) {
            Due.faulty("prime " + row + ";", 1, 6);
            Due.faulty("point " + row + ";", 1, 6);
            Due.faulty("conic " + row + " 1 0 0 0 0 0;", 1, 6);
            Due.faulty("pair 0 " + row + " 0 0 0 0 0;", 1, 7);
            Due.faulty("conic 0 1 0 0 0 0 - " + row + ";", 1, 20);
            Due.faulty("prime 3 " + row, 1, 8);
            Due.faulty(row, 1, 0);
        }
        Due.taken("prime 003;", 1);
    }

    private static void faultOfNumbers() {
        Due.sentence(T3, "2 a NUMBER that can't be (at it: a CONIC, a PRIME, a POINT");
        for (int n = 0; n < 1000; n++) {
            boolean prime = false;
            for (int p : Edges.PRIMES) {
                prime |= n == p;
            }
            number("prime " + n, ";", prime, 6);
            number("point " + n, ";", n <= 56, 6);
            number("conic " + n, " 1 0 0 0 0 0;", n <= 5, 6);
            number("pair " + n, " 1 0 0 0 0 1;", n <= 5, 5);
        }
        for (int p : Edges.PRIMES) {
            String before = "prime " + p + ";";
            int place = before.length() + 6;
            for (int n : new int[] {0, p * p, Edges.points(p) - 1, Edges.points(p), Edges.points(p) + 1, 999}) {
                String text = before + "point " + n + ";";
                if (n < Edges.points(p)) {
                    Due.taken(text, 2);
                } else {
                    Due.faulty(text, 2, place);
                }
            }
        }
    }

    private static void number(String begun, String rest, boolean can, int place) {
        if (can) {
            Due.taken(begun + rest, 1);
        } else {
            Due.faulty(begun + rest, 2, place);
            Due.faulty(begun, 2, place);
        }
    }

    private static void faultOfBeyond99() {
        Due.sentence(T3, "a number beyond 99");
        String[] can = {"99", "099", "-99", "-099", "- 99"};
        String[] cant = {"100", "101", "999", "-100", "- 100", "-999"};
        for (String word : new String[] {"conic", "pair"}) {
            for (int i = 0; i < 6; i++) {
                String before = word + " 0" + Edges.repeated(" 0", i) + " ";
                String behind = Edges.repeated(" 0", 5 - i);
                if (word.equals("conic")) {
                    for (String n : can) {
                        ConicDesk desk = Edges.desk(before + n + behind + ";");
                        Due.is("number " + i + " of " + n, desk.conic(0, 10 + i), n.charAt(0) == '-' ? -99 : 99);
                    }
                }
                for (String n : cant) {
                    int digits = n.length() - 3;
                    Due.faulty(before + n + behind + ";", 2, before.length() + digits);
                    Due.faulty(before + n, 2, before.length() + digits);
                }
            }
        }
        Due.numbers("99 times 1", Edges.desk("pair 0 99 0 0 1 0 0;"), 0, 99, 0, 0, 0, 0, 0);
        Due.numbers("1 times -99", Edges.desk("pair 0 0 0 1 0 0 -99;"), 0, 0, 0, -99, 0, 0, 0);
    }

    private static void faultOfConics() {
        Due.sentence(T3, "3 a CONIC all of whose numbers would be 0");
        Due.faulty("conic 0 0 0 0 0 0 0;", 3, 0);
        Due.faulty("conic 5 -0 00 -000 - 0 0 0;", 3, 0);
        Due.faulty("prime 3; conic 0 0 0 0 0 0 0;", 3, 9);
        Due.faulty("conic 0 1 1 1 1 1 1;conic 0 0 0 0 0 0 0;", 3, 20);
        Due.faulty("pair 0 0 0 0 1 2 3;", 3, 0);
        Due.faulty("pair 0 1 2 3 0 0 0;", 3, 0);
        Due.faulty("pair 0 0 0 0 0 0 0;", 3, 0);
        Due.faulty("\n\npair 0 0 0 0 99 99 99;", 3, 2);
        for (int i = 0; i < 6; i++) {
            Due.taken(Edges.alone(i, 1), 1);
            Due.taken(Edges.alone(i, -1), 1);
        }
        // All numbers are 0 modulo 7, and not 0.
        Due.taken("conic 0 7 -7 14 0 0 0;pair 1 7 0 0 1 1 1;", 2);
    }

    private static void faultOfPairs() {
        Due.sentence(T3, "or one beyond -99 to 99");
        String[] inside = {"9 0 0 11 0 0", "0 9 0 0 11 0", "0 0 9 0 0 11", "0 7 7 0 7 7", "7 0 7 7 0 7", "7 7 0 7 7 0",
            "10 1 0 -1 10 0", "0 10 1 0 -1 10", "1 0 10 10 0 -1", "-33 0 0 3 0 0", "0 -1 0 0 99 0", "0 0 99 0 0 -1",
            "0 33 0 0 0 -3", "33 0 0 0 0 3", "11 0 0 0 9 0", "7 7 0 -7 -7 0"};
        String[] beyond = {"10 0 0 10 0 0", "0 10 0 0 10 0", "0 0 10 0 0 10", "0 2 2 0 25 25", "2 0 2 25 0 25", "2 2 0 25 25 0",
            "10 0 0 -10 0 0", "0 10 0 0 -10 0", "0 0 10 0 0 -10", "0 2 2 0 -25 -25", "-2 0 -2 25 0 25", "2 2 0 -25 -25 0",
            "99 99 99 99 99 99", "-99 -99 -99 99 99 99", "0 1 50 0 2 0", "1 0 50 2 0 0", "1 50 0 2 0 0"};
        for (String numbers : inside) {
            Due.taken("pair 4 " + numbers + ";", 1);
        }
        for (String numbers : beyond) {
            Due.faulty("pair 4 " + numbers + ";", 3, 0);
            Due.faulty("prime 3; pair 4 " + numbers + ";", 3, 9);
        }
        Due.numbers("99, of 100 less 1", Edges.desk("pair 0 10 1 0 -1 10 0;"), 0, -10, 10, 0, 0, 0, 99);
        Due.numbers("99 of one", Edges.desk("pair 0 9 0 0 11 0 0;"), 0, 99, 0, 0, 0, 0, 0);
        Due.numbers("98 of two", Edges.desk("pair 0 7 7 0 -7 -7 0;"), 0, -49, -49, 0, 0, 0, -98);
    }

    private static void faultOfPoints() {
        Due.sentence(T3, "a POINT that is MARKED");
        Due.faulty("point 3;point 3;", 3, 8);
        Due.faulty("point 3;point 003;", 3, 8);
        Due.faulty("point 0;point 56;\n point 56;", 3, 19);
        Due.faulty("point 0;point 56; point 0;", 3, 18);
        Due.sentence(T3, "a 9th one");
        StringBuilder text = new StringBuilder();
        for (int k = 0; k < 8; k++) {
            text.append("point ").append(k).append(';');
            Due.taken(text.toString(), k + 1);
        }
        Due.faulty(text + "point 8;", 3, 64);
        Due.faulty(text + "point 0;", 3, 64);
        Due.faulty(text + "\npoint 56;prime 3;", 3, 65);
        Due.taken(text + "prime 3;point 8;", 10);
        Due.is("eight", Edges.desk(text.toString()).count(2), 8);
    }

    private static void firstThatIsMet() {
        Due.sentence(T3, "the first that is met");
        Due.faulty("x prime 9;", 1, 0);
        Due.faulty("prime 9 x", 2, 6);
        Due.faulty("prime 9", 2, 6);
        Due.faulty("prime 9;conic 0 0 0 0 0 0 0;", 2, 6);
        Due.faulty("conic 0 0 0 0 0 0 0;prime 9;", 3, 0);
        Due.faulty("conic 0 0 0 0 0 0 0;x", 3, 0);
        Due.faulty("conic 6 100 0 0 0 0 x;", 2, 6);
        Due.faulty("conic 0 100 100 1000 x;", 2, 8);
        Due.faulty("conic 0 0 0 0 x 100 0;", 1, 14);
        Due.sentence(T3, "(each at the LINE's word, behind its ';')");
        Due.faulty("conic 0 0 0 0 0 0 0", 1, 19);
        Due.faulty("conic 0 0 0 0 0 0 0 x", 1, 20);
        Due.faulty("conic 0 0 0 0 0 0 100;", 2, 18);
        Due.faulty("pair 0 99 99 99 99 99 99", 1, 24);
        Due.faulty("pair 0 99 99 99 99 99 99 prime 3;", 1, 25);
        Due.faulty("point 3;point 3", 1, 15);
        Due.faulty("point 3;point 3 3;", 1, 16);
        Due.faulty("point 0;point 1;point 2;point 3;point 4;point 5;point 6;point 7;point 8", 1, 71);
        Due.faulty("point 0;point 1;point 2;point 3;point 4;point 5;point 6;point 7;point 57;", 2, 70);
    }

    private static void ofOnePlaceTheLeast() {
        Due.sentence(T3, "of one place the least");
        Due.faulty("prime 1000;", 1, 6);
        Due.faulty("point 9999;", 1, 6);
        Due.faulty("conic 1000 1 1 1 1 1 1;", 1, 6);
        Due.faulty("conic 0 1000 1 1 1 1 1;", 1, 8);
        Due.faulty("point 0 999;", 1, 8);
        Due.faulty("point 0;999;", 1, 8);
        Due.faulty("conic 0 1 1 1 1 1 1 100;", 1, 20);
        Due.faulty("999", 1, 0);
    }

    private static void placesOfTheEnd() {
        Due.sentence(T3, "(a token's first byte; the end's)");
        Due.faulty(Edges.repeated(" ", 494) + "prime ", 1, 500);
        Due.faulty(Edges.repeated(" ", 495) + "prime", 1, 500);
        Due.faulty(Edges.repeated("\n", 493) + "prime 3", 1, 500);
        Due.faulty(Edges.repeated(" ", 496) + "prim", 1, 496);
        Due.faulty(Edges.repeated(" ", 499) + "!", 1, 499);
        Due.faulty(Edges.repeated(" ", 493) + "prime 9", 2, 499);
        Due.faulty(Edges.repeated(" ", 480) + "conic 0 0 0 0 0 0 0;", 3, 480);
        Due.faulty(Edges.repeated("0", 500), 1, 0);
        Due.faulty(Edges.repeated("a", 500), 1, 0);
        Due.faulty(Edges.repeated(";", 500), 1, 0);
        Due.taken(Edges.repeated(" ", 500), 0);
    }

    private static void taken() {
        Due.sentence("Promise 4", "The tape is taken (and is empty then) as a TEXT");
        for (String text : new String[] {"", " ", "prime 3;", "prime 9;", "x", Edges.repeated("prime7;", 71)}) {
            ConicDesk desk = new ConicDesk();
            Due.text(desk, text);
            Due.is("count(5) behind '" + text + "'", desk.count(5), 0);
            Due.is("end(1)", desk.end(1), NONE);
            Due.is("text() of the empty tape", desk.text(), 0);
            Due.is("fault(0)", desk.fault(0), 0);
            Due.is("feed", feedBlanks(desk), 20);
            Due.is("nothing of the old bytes", desk.text(), 0);
        }
    }

    private static void whyStaysAndNothingIsUndone() {
        Due.sentence("Promise 4", "all is as it tells (WHY stays; nothing can be UNDONE)");
        ConicDesk desk = new ConicDesk();
        for (int k = 0; k < 9; k++) {
            Due.is("set", desk.set(0, 1, k + 1), 0);
        }
        Due.refused("turn", desk, desk.turn(1, 1), 5, 7);
        Due.is("count(4)", desk.count(4), 8);
        Due.is("text", Due.text(desk, "conic 1 1 1 1 0 0 0;"), 1);
        Due.is("why(0) stays", desk.why(0), 5);
        Due.is("why(1) stays", desk.why(1), 7);
        Due.is("count(4)", desk.count(4), 0);
        Due.is("undo", desk.undo(), NONE);
        Due.numbers("as it tells", desk, 0, 1, 0, 0, 0, 0, 0);
        Due.is("the act behind it", desk.set(0, 0, 3), 0);
        Due.is("count(4)", desk.count(4), 1);
        Due.is("undo", desk.undo(), 0);
        Due.is("undo", desk.undo(), NONE);
        Due.numbers("as the text told", desk, 1, 1, 1, 1, 0, 0, 0);
        Due.is("an act that is not refused", desk.set(0, 0, 4), 0);
        Due.is("an empty text", desk.text(), 0);
        Due.is("why(0)", desk.why(0), 0);
        Due.is("count(4)", desk.count(4), 0);
    }

    private static void howManyLines() {
        Due.sentence("Promise 4", "how many LINES");
        for (int lines = 0; lines <= 71; lines++) {
            Due.taken(Edges.repeated("prime7;", lines), lines);
        }
        Due.taken(Edges.repeated("prime7;", 71) + "   ", 71);
        Due.faulty(Edges.repeated("prime7;", 71) + "pri", 1, 497);
        Due.taken("prime 3;\npoint 0;\nconic 0 1 0 0 0 0 0;\npair 0 1 0 0 1 0 0;\n", 4);
    }

    private static void faultLeavesAllElse() {
        Due.sentence("Promise 4", "NONE: a FAULT (all else stays).");
        ConicDesk desk = Edges.desk("prime 11;point 132;conic 0 1 2 3 4 5 6;");
        Due.is("set", desk.set(0, 0, 9), 0);
        Due.refused("set", desk, desk.set(0, 0, 100), 1, 0);
        Due.is("text", Due.text(desk, "prime 3;conic 0 6 5 4 3 2 1;point 5;prime 9;"), NONE);
        Due.is("fault(0)", desk.fault(0), 2);
        Due.is("prime", desk.count(0), 11);
        Due.is("marked", desk.marked(0), 132);
        Due.is("marked ones", desk.count(2), 1);
        Due.numbers("conic", desk, 0, 9, 2, 3, 4, 5, 6);
        Due.is("why(0)", desk.why(0), 1);
        Due.is("count(4)", desk.count(4), 1);
        Due.is("undo", desk.undo(), 0);
        Due.numbers("as before", desk, 0, 1, 2, 3, 4, 5, 6);
    }

    private static void faultOfTheLatest() {
        Due.sentence("Promise 5", "Of the latest text(), what 0: the FAULT, 0 without, 1: its place, NONE without.");
        ConicDesk desk = new ConicDesk();
        String[] texts = {"x", "prime 3;", "prime 9;", "  x", "conic 0 0 0 0 0 0 0;", "prime 3", "", "prime 4;"};
        int[] faults = {1, 0, 2, 1, 3, 1, 0, 2};
        int[] places = {0, NONE, 6, 2, 0, 7, NONE, 6};
        Due.is("fault(0) before any", desk.fault(0), 0);
        Due.is("fault(1) before any", desk.fault(1), NONE);
        for (int k = 0; k < texts.length; k++) {
            Due.is("text of '" + texts[k] + "'", Due.text(desk, texts[k]) == NONE ? 1 : 0, faults[k] == 0 ? 0 : 1);
            desk.set(0, 0, 20 + k);
            desk.set(9, 0, 0);
            feedBlanks(desk);
            desk.undo();
            Due.is("fault(0) of '" + texts[k] + "'", desk.fault(0), faults[k]);
            Due.is("fault(1) of '" + texts[k] + "'", desk.fault(1), places[k]);
            desk.end(0);
        }
    }

    private static void faultOfAnotherWhat() {
        Due.sentence("Promise 5", "NONE for another what.");
        for (String text : new String[] {"", "prime 9;"}) {
            ConicDesk desk = new ConicDesk();
            Due.text(desk, text);
            for (int what : new int[] {-1, 2, 3, LOWEST, LOWEST + 1, HIGHEST, Edges.UNKNOWN, 256, 257}) {
                Due.is("fault(" + what + ") of '" + text + "'", desk.fault(what), NONE);
            }
        }
    }
}
