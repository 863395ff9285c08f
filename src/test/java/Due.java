import java.io.IOException;
import java.nio.charset.StandardCharsets;
import java.nio.file.Files;
import java.nio.file.Path;
import java.util.List;

/** What the project's tests share: answers that are due, and tapes told as texts. */
final class Due {
    private static int wrong = 0;
    private static int asked = 0;
    private static int sentences = 0;

    private Due() {
    }

    /** Prints the document's words that the answers behind this are due by. */
    static void sentence(String where, String words) {
        sentences++;
        System.out.println("  " + where + ": " + words);
    }

    /** Likewise, of one side of what they tell. */
    static void sentence(String where, String words, String side) {
        sentence(where, words + " [" + side + "]");
    }

    /** The document's lines; none, and that is told, where it does not stand beside the tests that came with it. */
    static List<String> document() throws IOException {
        Path document = Path.of(System.getProperty("project", "."), "../shared/DOC.md");
        if (!Files.exists(document)) {
            System.out.println("  there is no " + document + ": what is told of it is not looked at");
            return List.of();
        }
        return Files.readAllLines(document, StandardCharsets.UTF_8);
    }

    static void is(String call, long got, long want) {
        asked++;
        if (got != want) {
            wrong++;
            System.out.println(call + " answered " + got + ", due is " + want);
        }
    }

    static void holds(String call, boolean got) {
        is(call, got ? 1 : 0, 1);
    }

    static void fails(String call, boolean got) {
        is(call, got ? 1 : 0, 0);
    }

    /** Feeds the text, cuts the tape behind it and has it taken. */
    static int text(ConicDesk desk, String text) {
        feed(desk, text);
        return desk.text();
    }

    static void feed(ConicDesk desk, String text) {
        byte[] bytes = text.getBytes(StandardCharsets.ISO_8859_1);
        int before = desk.count(5);
        int[] fours = new int[5];
        for (int at = 0; at < bytes.length; at += 20) {
            for (int k = 0; k < 20; k++) {
                int next = at + k < bytes.length ? bytes[at + k] & 255 : 32;
                fours[k / 4] = fours[k / 4] << 8 | next;
            }
            desk.feed(fours[0], fours[1], fours[2], fours[3], fours[4]);
        }
        is("end behind '" + text + "'", desk.end(before + bytes.length), before + bytes.length);
    }

    static void taken(String text, int lines) {
        ConicDesk desk = new ConicDesk();
        is("text of '" + text + "'", text(desk, text), lines);
        is("fault(0) of '" + text + "'", desk.fault(0), 0);
        is("fault(1) of '" + text + "'", desk.fault(1), ConicDesk.NONE);
    }

    static void faulty(String text, int fault, int place) {
        ConicDesk desk = new ConicDesk();
        is("text of '" + text + "'", text(desk, text), ConicDesk.NONE);
        is("fault(0) of '" + text + "'", desk.fault(0), fault);
        is("fault(1) of '" + text + "'", desk.fault(1), place);
    }

    static void numbers(String which, ConicDesk desk, int conic, int... want) {
        for (int i = 0; i < want.length; i++) {
            is(which + ": conic(" + conic + ", " + (10 + i) + ")", desk.conic(conic, 10 + i), want[i]);
        }
    }

    static void refused(String which, ConicDesk desk, int got, int reason, int cause) {
        is(which, got, reason);
        is(which + ", why(0)", desk.why(0), reason);
        is(which + ", why(1)", desk.why(1), cause);
    }

    static void end(String test) {
        String told = sentences == 0 ? "" : sentences + " sentences, ";
        System.out.println(test + ": " + told + asked + " answers, " + wrong + " not as due");
        if (wrong != 0) {
            System.exit(1);
        }
    }
}
