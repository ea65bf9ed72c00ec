import java.lang.reflect.Constructor;
import java.lang.reflect.Field;
import java.lang.reflect.Method;
import java.lang.reflect.Modifier;
import java.nio.file.Files;
import java.nio.file.Path;
import java.util.ArrayList;
import java.util.List;
import java.util.TreeSet;
import java.util.regex.Matcher;
import java.util.regex.Pattern;

/** The face of the class, and the rules of ../shared/LANGUAGE.md that can be looked up. */
public final class LanguageTest {
    private static final String FACE = "feed5 end1 store0 fault1 span3 drop1 prefer1 fix2 set4 clear1 lay0 page2 "
        + "mend0 layAll0 tidy0 undo0 redo0 told2 register2 part1 wanted1 kind1 run2 paged1 seen1 strange1 "
        + "mendable1 withPages1 pagedPlan2 pageFor1 wrong1 cost1 plan2 byDefault1 bestDefault0 most1 bestSet3 "
        + "idle1 without1 besides3 change1 order1 stir1 block2 bits1 image1 differs2 back1 about1";
    private static final String TRUTHS = "set clear undo redo";
    private static int wrong = 0;

    private static void due(String what, boolean is) {
        if (!is) {
            wrong++;
            System.out.println("not as due: " + what);
        }
    }

    private static TreeSet<String> publicNames() {
        TreeSet<String> names = new TreeSet<>();
        for (Method m : SpanKinds.class.getDeclaredMethods()) {
            if (Modifier.isPublic(m.getModifiers())) {
                names.add(m.getName());
            }
        }
        return names;
    }

    private static void face() {
        TreeSet<String> found = new TreeSet<>();
        TreeSet<String> names = publicNames();
        for (Method m : SpanKinds.class.getDeclaredMethods()) {
            int how = m.getModifiers();
            if (Modifier.isPublic(how)) {
                found.add(m.getName() + m.getParameterCount());
                boolean truth = List.of(TRUTHS.split(" ")).contains(m.getName());
                due(m.getName() + " answers", m.getReturnType() == (truth ? boolean.class : int.class));
                due(m.getName() + " is no static one", !Modifier.isStatic(how));
            } else {
                due(m.getName() + " is private", Modifier.isPrivate(how));
                due(m.getName() + " is a public one's name", !names.contains(m.getName()));
            }
        }
        due("the face: " + found, found.equals(new TreeSet<>(List.of(FACE.split(" ")))));
        due("public and final", (SpanKinds.class.getModifiers() & (Modifier.PUBLIC | Modifier.FINAL))
            == (Modifier.PUBLIC | Modifier.FINAL));
        Constructor<?>[] constructors = SpanKinds.class.getDeclaredConstructors();
        due("one constructor", constructors.length == 1 && Modifier.isPublic(constructors[0].getModifiers())
            && constructors[0].getParameterCount() == 0);
        due("NONE", SpanKinds.NONE == -1);
    }

    private static void fields(Class<?> c) {
        int own = 0;
        for (Field f : c.getDeclaredFields()) {
            int how = f.getModifiers();
            due(c + " " + f.getName() + " is final, being static", !Modifier.isStatic(how) || Modifier.isFinal(how));
            own += Modifier.isStatic(how) ? 0 : 1;
            if (c == SpanKinds.class) {
                due(f.getName() + " is private", Modifier.isPrivate(how) || f.getName().equals("NONE"));
            }
        }
        due(c + " has at most twenty fields, not " + own, own <= 20);
    }

    private static void classes() {
        TreeSet<String> names = publicNames();
        Class<?>[] inside = SpanKinds.class.getDeclaredClasses();
        due("at most twelve classes", inside.length + 1 <= 12);
        fields(SpanKinds.class);
        for (Class<?> c : inside) {
            due(c + " is static and not public", Modifier.isStatic(c.getModifiers()) && !Modifier.isPublic(c.getModifiers()));
            due(c + " has none inside", c.getDeclaredClasses().length == 0);
            fields(c);
            for (Method m : c.getDeclaredMethods()) {
                due(c + "." + m.getName() + " is a public one's name", !names.contains(m.getName()));
                due(c + "." + m.getName() + " takes too much", m.getParameterCount() <= 7);
            }
        }
    }

    private static String bare(String text) {
        return text.replaceAll("(?s)/\\*.*?\\*/", "").replaceAll("//[^\n]*", "").replaceAll("\"[^\"\n]*\"", "\"\"");
    }

    private static void words(String code) {
        String[] bad = {"throw", "throws", "try", "catch", "synchronized", "assert", "protected", "import", "package",
            "System.out", "hashCode", "toString", "Exact", "Object", "String.format", "float", "double", "null ==",
            "->", "::", "new Thread", "record", "var", "native", "volatile", "transient"};
        for (String word : bad) {
            boolean plain = Character.isLetter(word.charAt(0));
            String form = plain ? "\\b" + Pattern.quote(word) + "\\b" : Pattern.quote(word);
            due("no '" + word + "'", !Pattern.compile(form).matcher(code).find());
        }
        Matcher library = Pattern.compile("\\b(System|Math|Integer|Long|Arrays)\\.(\\w+)").matcher(code);
        List<String> known = List.of("System.arraycopy", "Math.min", "Math.max", "Integer.bitCount",
            "Integer.numberOfTrailingZeros");
        while (library.find()) {
            due("the library: " + library.group(), known.contains(library.group()));
        }
        for (int i = 0; i < code.length(); i++) {
            due("signs 1 to 127", code.charAt(i) > 0 && code.charAt(i) < 128);
        }
    }

    /** Methods by their braces: none is longer than some sixty lines. */
    private static void lengths(String code) {
        String[] lines = code.split("\n");
        List<Integer> open = new ArrayList<>();
        for (int i = 0; i < lines.length; i++) {
            for (char c : lines[i].toCharArray()) {
                if (c == '{') {
                    open.add(i);
                } else if (c == '}') {
                    int start = open.remove(open.size() - 1);
                    boolean method = lines[start].contains("(") && !lines[start].contains("class");
                    due("a method of " + (i - start + 1) + " lines: " + lines[start], !method || i - start < 60);
                }
            }
        }
    }

    /** Some calls that once were dear, on one object: what they make must fit the room many times. */
    private static void room() {
        java.lang.management.ThreadMXBean bean = java.lang.management.ManagementFactory.getThreadMXBean();
        if (!(bean instanceof com.sun.management.ThreadMXBean)) {
            return;
        }
        com.sun.management.ThreadMXBean counted = (com.sun.management.ThreadMXBean) bean;
        dearCalls(new SpanKinds());
        long before = counted.getCurrentThreadAllocatedBytes();
        dearCalls(new SpanKinds());
        long bytes = counted.getCurrentThreadAllocatedBytes() - before;
        due("512 calls make " + bytes + " bytes", bytes < 1000000);
    }

    private static void dearCalls(SpanKinds x) {
        for (int i = 0; i < 12; i++) {
            x.span(20 * i + 1, 20 * i + 7, i % 5);
        }
        for (int i = 0; i < 50; i++) {
            x.prefer(i % 5);
            x.layAll();
            x.lay();
            x.bestSet(10, 3, 0);
            x.bestDefault();
            x.order(3);
            x.besides(1, 2, 0);
            x.image(0);
            x.differs(0, 0);
            x.undo();
        }
    }

    public static void main(String[] args) throws Exception {
        String source = System.getProperty("spankinds.source", "src/main/java/SpanKinds.java");
        String code = bare(Files.readString(Path.of(source)));
        face();
        classes();
        words(code);
        lengths(code);
        room();
        System.out.println(wrong == 0 ? "the rules that were looked up are kept" : wrong + " not as due");
        if (wrong != 0) {
            System.exit(1);
        }
    }
}
