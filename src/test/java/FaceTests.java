import java.lang.reflect.Constructor;
import java.lang.reflect.Field;
import java.lang.reflect.Method;
import java.lang.reflect.Modifier;
import java.nio.file.Files;
import java.nio.file.Path;
import java.util.Set;
import java.util.TreeSet;
import java.util.regex.Matcher;
import java.util.regex.Pattern;

/** The face of the document, and those rules of LANGUAGE.md that can be read off the text. */
public final class FaceTests {
    private static final String[] FACE = {
        "sheet(int,int)", "piece(int,int,int)", "drop()", "mark(int,int,int)", "like(int,int)",
        "letter(int,int,int)", "wear(int,int)", "dated(int,int,int)", "out(int,boolean)", "bar(int,int)", "free()",
        "of(int,int)", "told(int,int)", "quarrel()", "layings()", "laying(int,int)", "place(int)", "rivals(int)",
        "order(int,int)", "known(int,int)", "changes(int,int)", "breaks(int)", "inverted()", "span(int,int)",
        "unseen(int)", "many(int)", "keep()", "back()"};
    private static final String[] CONSTANTS = {"NUMBER=-1", "FULL=-2", "TWICE=-3", "NONE=-4", "APART=-5", "RIVALS=-6"};
    private static final String[] BANNED = {"throw", "throws", "try", "catch", "finally", "synchronized", "assert",
        "Exception", "Random", "Thread", "File", "System.out", "System.exit", "currentTimeMillis", "nanoTime",
        "Object", "HashMap", "Map", "Set", "package"};

    private static int wrong = 0;

    private static void check(boolean holds, String what) {
        if (!holds) {
            wrong++;
            System.out.println("not so: " + what);
        }
    }

    private static String signature(Method m) {
        StringBuilder s = new StringBuilder(m.getName()).append('(');
        for (Class<?> p : m.getParameterTypes()) {
            s.append(s.charAt(s.length() - 1) == '(' ? "" : ",").append(p.getName());
        }
        return s.append(')').toString();
    }

    private static void methods() {
        Set<String> found = new TreeSet<>();
        Set<String> names = new TreeSet<>();
        for (Method m : StampSheet.class.getDeclaredMethods()) {
            if (!Modifier.isPrivate(m.getModifiers())) {
                check(Modifier.isPublic(m.getModifiers()), m.getName() + " is public or private");
                check(!Modifier.isStatic(m.getModifiers()), m.getName() + " is of an object");
                check(m.getReturnType() == int.class, m.getName() + " answers an int");
                found.add(signature(m));
                names.add(m.getName());
            }
        }
        check(found.equals(new TreeSet<>(Set.of(FACE))), "the public methods are those of the document: " + found);
        for (Method m : StampSheet.class.getDeclaredMethods()) {
            check(Modifier.isPublic(m.getModifiers()) || !names.contains(m.getName()), m.getName() + " is a name of its own");
        }
        for (Class<?> c : StampSheet.class.getDeclaredClasses()) {
            for (Method m : c.getDeclaredMethods()) {
                check(!names.contains(m.getName()), m.getName() + " of " + c.getName() + " is a name of its own");
                check(m.getParameterCount() <= 7, m.getName() + " takes at most seven");
            }
        }
    }

    private static void fields() throws IllegalAccessException {
        Set<String> found = new TreeSet<>();
        for (Field f : StampSheet.class.getDeclaredFields()) {
            if (!Modifier.isPrivate(f.getModifiers())) {
                boolean constant = Modifier.isPublic(f.getModifiers()) && Modifier.isStatic(f.getModifiers())
                    && Modifier.isFinal(f.getModifiers()) && f.getType() == int.class;
                check(constant, f.getName() + " is a constant");
                found.add(f.getName() + "=" + f.get(null));
            }
        }
        check(found.equals(new TreeSet<>(Set.of(CONSTANTS))), "the constants are those of the document: " + found);
    }

    private static void classes() {
        int modifiers = StampSheet.class.getModifiers();
        check(Modifier.isPublic(modifiers) && Modifier.isFinal(modifiers), "the class is public and final");
        Constructor<?>[] made = StampSheet.class.getDeclaredConstructors();
        check(made.length == 1 && Modifier.isPublic(made[0].getModifiers()) && made[0].getParameterCount() == 0,
            "there is one constructor, without numbers");
        check(StampSheet.class.getDeclaredClasses().length <= 11, "there are at most some twelve classes");
        for (Class<?> c : StampSheet.class.getDeclaredClasses()) {
            int m = c.getModifiers();
            check(Modifier.isStatic(m) && !Modifier.isPublic(m) && !Modifier.isProtected(m), c.getName() + " is static");
            int fields = 0;
            for (Field f : c.getDeclaredFields()) {
                fields += Modifier.isStatic(f.getModifiers()) ? 0 : 1;
                check(!Modifier.isStatic(f.getModifiers()) || Modifier.isFinal(f.getModifiers()), f.getName() + " is final");
            }
            check(fields <= 20, c.getName() + " has some twenty fields at most");
        }
    }

    private static void text(String text) {
        for (int i = 0; i < text.length(); i++) {
            check(text.charAt(i) < 128, "sign " + i + " is a plain one");
        }
        String code = text.replaceAll("(?s)/\\*.*?\\*/", " ").replaceAll("//[^\\n]*", " ");
        for (String word : BANNED) {
            check(!Pattern.compile("\\b" + Pattern.quote(word) + "\\b").matcher(code).find(), "no '" + word + "'");
        }
        check(!code.contains("->") && !code.contains("::"), "no lambda, no method reference");
        Matcher imports = Pattern.compile("import\\s+([^;]*);").matcher(code);
        while (imports.find()) {
            check(imports.group(1).equals("java.util.Arrays"), "import of " + imports.group(1));
        }
        Matcher library = Pattern.compile("\\b(Math|Integer|Arrays|System)\\.(\\w+)").matcher(code);
        Set<String> may = Set.of("Math.max", "Math.min", "Integer.bitCount", "Integer.numberOfTrailingZeros",
            "Arrays.fill", "System.arraycopy");
        while (library.find()) {
            check(may.contains(library.group()) || library.group().equals("util.Arrays"), library.group() + " is allowed");
        }
    }

    /** The face that the document writes out is the class's, line by line and in its order. */
    private static void documentsFace(String document, String text) {
        Matcher line = Pattern.compile("(?m)^ *(public .*?[{;])$").matcher(document);
        int at = -1;
        int members = 0;
        while (line.find()) {
            String member = line.group(1).replaceAll("\\);$", ") {");
            int next = text.indexOf(member, at + 1);
            check(next > at, "in its turn the class has: " + member);
            at = Math.max(at, next);
            members += member.contains(" class ") ? 0 : 1;
        }
        check(members == FACE.length + CONSTANTS.length + 1, "the document's face is the one that is tested here");
    }

    /** What the document says ahead of parts of the calls stands there, and nowhere else. */
    private static void parts(String document, String text) {
        Matcher part = Pattern.compile("Ahead of the calls (.*?) the interface says: (---- .*?)\\.").matcher(document);
        int at = text.indexOf("public StampSheet()");
        int named = 0;
        while (part.find()) {
            String due = "// " + part.group(2) + "\n";
            for (String quoted : part.group(1).split(", ")) {
                int next = text.indexOf("public int " + quoted.replace("`", "") + "(");
                check(next > at && at > 0, quoted + " comes in its turn");
                String between = at > 0 && next > at ? text.substring(at, next) : "";
                check(between.contains("// ----") != due.isEmpty() && between.contains(due), "ahead of " + quoted + ": " + due);
                due = "";
                at = next;
                named++;
            }
        }
        check(named == FACE.length, "the document's parts have all calls");
    }

    public static void main(String[] args) throws Exception {
        String document = Files.readString(Path.of("../shared/DOC.md"));
        String source = Files.readString(Path.of("src/main/java/StampSheet.java"));
        classes();
        documentsFace(document, source);
        parts(document, source);
        methods();
        fields();
        text(source);
        System.out.println(wrong == 0 ? "the face is as due" : wrong + " things are not as due");
        if (wrong != 0) {
            System.exit(1);
        }
    }
}
