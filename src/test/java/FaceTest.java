import java.lang.reflect.Constructor;
import java.lang.reflect.Field;
import java.lang.reflect.Method;
import java.lang.reflect.Modifier;
import java.nio.charset.StandardCharsets;
import java.nio.file.Files;
import java.nio.file.Path;
import java.util.Set;
import java.util.TreeSet;

/** Promise 1, the public face, and what of LANGUAGE.md can be looked up in the source's words. */
public final class FaceTest {
    private static final String[] FACE = {
        "int feed(int,int,int,int,int)", "int end(int)", "int text()", "int fault(int)", "int prime(int)",
        "int set(int,int,int)", "int sum(int,int,int,int,int)", "int turn(int,int)", "int twist(int,int)",
        "int through(int)", "int mark(int,boolean)", "int why(int)", "int undo()", "int count(int)",
        "int conic(int,int)", "int place(int,int)", "int number(int,int,int)", "int joined(int,int)",
        "int marked(int)", "int lies(int,int)", "int on(int,int,boolean)", "int polar(int,int)",
        "int pole(int,int)", "int meets(int,int)", "int tangent(int,int,int)", "int pencil(int,int,int)",
        "int member(int,int,int,int)", "int passing(int,int,int)", "int only(int)", "int freed(int)",
        "int useful()", "boolean image(int)", "boolean again(int)"};
    private static final String[] NOT_OURS = {
        "throw", "throws", "try", "catch", "synchronized", "assert", "import", "package", "abstract",
        "System.out", "Exact", "->", "::", "Object", "equals", "hashCode", "toString", "@"};

    public static void main(String[] args) throws Exception {
        newObject();
        constants();
        face();
        language();
        Due.end("FaceTest");
    }

    private static void newObject() {
        ConicDesk desk = new ConicDesk();
        int[] counts = {7, 57, 0, 6, 0, 0, 0, 0};
        for (int what = 0; what < counts.length; what++) {
            Due.is("new: count(" + what + ")", desk.count(what), counts[what]);
        }
        for (int conic = 0; conic < 6; conic++) {
            Due.numbers("new", desk, conic, 1, 0, 0, 0, 0, 0);
        }
        Due.is("new: fault(0)", desk.fault(0), 0);
        Due.is("new: fault(1)", desk.fault(1), ConicDesk.NONE);
        Due.is("new: why(0)", desk.why(0), 0);
        Due.is("new: why(1)", desk.why(1), 0);
        Due.is("new: undo()", desk.undo(), ConicDesk.NONE);
        Due.is("new: marked(0)", desk.marked(0), ConicDesk.NONE);
        for (int k = -1; k < 4; k++) {
            Due.fails("new: again(" + k + ")", desk.again(k));
        }
    }

    private static void constants() {
        Due.is("NONE", ConicDesk.NONE, -1);
        Due.is("UNKNOWN", ConicDesk.UNKNOWN, -2000000000);
    }

    private static void face() {
        Set<String> due = new TreeSet<>();
        for (String method : FACE) {
            due.add(method);
        }
        Set<String> got = new TreeSet<>();
        Set<String> publicNames = new TreeSet<>();
        for (Method method : ConicDesk.class.getDeclaredMethods()) {
            if (!Modifier.isPrivate(method.getModifiers())) {
                StringBuilder told = new StringBuilder(method.getReturnType() + " " + method.getName() + "(");
                for (int k = 0; k < method.getParameterCount(); k++) {
                    told.append(k == 0 ? "" : ",").append(method.getParameterTypes()[k]);
                }
                got.add(told.append(")").toString());
                publicNames.add(method.getName());
            }
        }
        Due.holds("the methods are " + got, got.equals(due));
        for (Method method : ConicDesk.class.getDeclaredMethods()) {
            boolean hidden = Modifier.isPrivate(method.getModifiers());
            Due.fails("private with a public name: " + method, hidden && publicNames.contains(method.getName()));
        }
        for (Field field : ConicDesk.class.getDeclaredFields()) {
            boolean constant = field.getName().equals("NONE") || field.getName().equals("UNKNOWN");
            Due.is("seen: " + field, Modifier.isPrivate(field.getModifiers()) ? 1 : 0, constant ? 0 : 1);
        }
        Constructor<?>[] made = ConicDesk.class.getDeclaredConstructors();
        Due.is("constructors", made.length, 1);
        Due.holds("the constructor is public", Modifier.isPublic(made[0].getModifiers()));
        Due.holds("the class is final", Modifier.isFinal(ConicDesk.class.getModifiers()));
        for (Class<?> inside : ConicDesk.class.getDeclaredClasses()) {
            Due.holds("static: " + inside, Modifier.isStatic(inside.getModifiers()));
        }
        Due.holds("at most twelve classes", ConicDesk.class.getDeclaredClasses().length < 12);
    }

    private static void language() throws Exception {
        Path source = Path.of(System.getProperty("project", "."), "src/main/java/ConicDesk.java");
        String text = Files.readString(source, StandardCharsets.ISO_8859_1);
        String code = text.replaceAll("(?s)/\\*.*?\\*/", " ").replaceAll("//[^\n]*", " ");
        for (String word : NOT_OURS) {
            boolean plain = Character.isLetter(word.charAt(0)) && !word.equals("Exact");
            String sought = plain ? "(?s).*\\b" + word.replace(".", "\\.") + "\\b.*" : "(?s).*" + word + ".*";
            Due.fails("the source has '" + word + "'", code.matches(sought));
        }
        for (int k = 0; k < text.length(); k++) {
            if (text.charAt(k) > 126) {
                Due.is("a sign of the source at " + k, text.charAt(k), 126);
            }
        }
    }
}
