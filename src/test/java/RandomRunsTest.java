import java.lang.reflect.Method;
import java.lang.reflect.Modifier;
import java.util.ArrayList;
import java.util.List;

/** Long runs of calls, made by a fixed rule, on the class and on the Reference: all answers alike. */
public final class RandomRunsTest {
    private static long seed;

    private static int below(int n) {
        seed = seed * 6364136223846793005L + 1442695040888963407L;
        return (int) ((seed >>> 33) % n);
    }

    private static int pick(int... numbers) {
        return numbers[below(numbers.length)];
    }

    private static final String[] KINDS = {"none", "comb", "thru", "prot", "back"};

    private static int size = 256;

    /** A kind; of the few that go together more often than not, so that blocks lie over others. */
    private static int someKind() {
        return below(3) == 0 ? below(5) : pick(0, 2, 4, 4);
    }

    private static int[] someSpan() {
        int length = Math.min(size, 1 << below(11));
        int from = below(2) == 0 ? below(size) : below(size / length) * length;
        int to = Math.min(size - 1, from + (below(2) == 0 ? length - 1 : below(length)));
        return new int[] {from, to};
    }

    private static String someStore(int space) {
        StringBuilder text = new StringBuilder();
        size = 1 << space;
        List<String> head = new ArrayList<>();
        head.add("space " + space + ";");
        if (below(3) > 0) {
            head.add("registers " + (1 + below(10)) + ";");
        }
        if (below(3) > 0) {
            head.add("default " + KINDS[someKind()] + ";");
        }
        while (!head.isEmpty()) {
            text.append(head.remove(below(head.size()))).append(below(2) == 0 ? "" : "\n");
        }
        boolean fixed = below(2) == 0;
        int lines = below(20);
        for (int i = 0; i < lines; i++) {
            switch (below(4)) {
                case 0, 1 -> {
                    int[] s = someSpan();
                    text.append("span ").append(s[0]).append(' ').append(s[1]).append(' ').append(KINDS[someKind()]);
                }
                case 2 -> {
                    int block = 1 << below(space + 1);
                    text.append("reg ").append(below(size / block) * block).append(' ').append(block)
                        .append("  ").append(KINDS[someKind()]);
                }
                default -> text.append("page ").append(below(size / 16)).append(' ').append(KINDS[below(5)]);
            }
            text.append(below(2) == 0 ? ";" : " ;\n");
            if (fixed && below(4) == 0) {
                fixed = false;
                text.append("fixed ").append(3 + below(space - 2));
                for (int p = 0; p < 8; p++) {
                    text.append(' ').append(KINDS[below(5)]);
                }
                text.append("; ");
            }
        }
        return text.toString();
    }

    /** A text with some of its tokens or bytes gone, doubled or changed. */
    private static String broken(String text) {
        StringBuilder out = new StringBuilder(text);
        int times = 1 + below(2);
        for (int i = 0; i < times && out.length() > 0; i++) {
            int at = below(out.length());
            switch (below(6)) {
                case 0 -> out.deleteCharAt(at);
                case 1 -> out.insert(at, (char) pick(';', ' ', 'a', '0', '9', 0, 255, 'A', 9, 10));
                case 2 -> out.setLength(at);
                case 3 -> out.insert(at, " " + KINDS[below(5)] + " ");
                case 4 -> out.setCharAt(at, (char) ('0' + below(10)));
                default -> out.insert(Math.max(0, out.toString().indexOf(';', at)) ,
                    pick(0, 1) == 0 ? "; space 5" : "; span 0 3 none; reg 0 16 back");
            }
        }
        return out.toString();
    }

    private final SpanKinds x = new SpanKinds();
    private final Reference y = new Reference();
    private final List<String> told = new ArrayList<>();
    private int calls;

    private Object[] call(String name, int... args) throws Exception {
        Class<?>[] types = new Class<?>[args.length];
        Object[] values = new Object[args.length];
        StringBuilder shown = new StringBuilder(name).append('(');
        for (int i = 0; i < args.length; i++) {
            types[i] = int.class;
            values[i] = args[i];
            shown.append(i == 0 ? "" : ", ").append(args[i]);
        }
        Object got = SpanKinds.class.getMethod(name, types).invoke(x, values);
        Object due = Reference.class.getMethod(name, types).invoke(y, values);
        calls++;
        told.add(shown.append(") = ").append(got).toString());
        if (!got.equals(due)) {
            System.out.println("due is " + due + " behind the last of:");
            for (String line : told) {
                System.out.println("  " + line);
            }
            throw new IllegalStateException("an answer is not as due");
        }
        return new Object[] {got};
    }

    private boolean giveStore(String text) throws Exception {
        told.add("\"" + text.replace("\n", "\\n") + "\"");
        String all = text.length() > 800 ? text.substring(0, 800) : text;
        for (int i = 0; i < all.length(); i += 20) {
            int[] five = new int[5];
            for (int j = 0; j < 20; j++) {
                int b = i + j < all.length() ? all.charAt(i + j) : below(256);
                five[j / 4] = five[j / 4] << 8 | b;
            }
            call("feed", five);
        }
        call("end", all.length());
        int answer = (Integer) call("store")[0];
        call("fault", 0);
        call("fault", 1);
        size = (Integer) call("about", 0)[0];
        return answer >= 0;
    }

    private int someArgument() {
        return switch (below(9)) {
            case 0 -> -1;
            case 1 -> pick(-2, Integer.MIN_VALUE, Integer.MAX_VALUE, 1 << 30, 2000);
            case 2 -> below(size + 2);
            case 3 -> below(70);
            default -> below(12);
        };
    }

    private void someAct() throws Exception {
        int block = 1 << below(Integer.numberOfTrailingZeros(size) + 1);
        switch (below(12)) {
            case 0, 1, 2 -> {
                int[] s = someSpan();
                call("span", s[0], s[1], someKind());
            }
            case 3 -> call("drop", below(8));
            case 4 -> call("prefer", someKind());
            case 5, 6, 7 -> call("set", below(10), below(size / block) * block, block, someKind());
            case 8 -> call(pick(0, 1) == 0 ? "lay" : "layAll");
            case 9 -> call("page", below(size / 16), below(6));
            case 10 -> call(new String[] {"undo", "redo", "tidy", "mend"}[below(4)]);
            default -> call("fix", below(8), below(5));
        }
    }

    private void anyCall(List<Method> methods) throws Exception {
        Method m = methods.get(below(methods.size()));
        int[] args = new int[m.getParameterCount()];
        for (int i = 0; i < args.length; i++) {
            args[i] = someArgument();
        }
        if (m.getName().equals("besides") && below(4) > 0) {
            args = new int[] {1 << below(11), below(5), below(2)};
        }
        if (m.getName().equals("block") && below(2) > 0) {
            args = new int[] {below(5), below(2)};
        }
        if (!m.getName().equals("store") && !m.getName().equals("feed")) {
            call(m.getName(), args);
        }
    }

    private void list(String name) throws Exception {
        int n = (Integer) call(name, -1, 7)[0];
        for (int i = 0; i <= n; i++) {
            for (int what = 0; what < 3; what++) {
                call(name, i, what);
            }
        }
    }

    /** Everything that is dear to find out. */
    private void askAll() throws Exception {
        list("plan");
        list("pagedPlan");
        for (int i = 0; i < size / 16; i++) {
            call("pageFor", i);
            call("mendable", i);
        }
        call("cost", 0);
        call("bestDefault");
        for (int i = 0; i < 3; i++) {
            call("change", i);
        }
        for (int i = 0; i < 12; i++) {
            call("order", i);
            call("stir", i);
        }
        int r = below(11);
        call("most", r);
        for (int i = -1; i <= r; i++) {
            call("bestSet", r, i, 0);
            call("bestSet", r, i, 1);
            call("bestSet", r, i, 2);
        }
    }

    /** Registers near the plan: a change of some steps, many of which can be made in some order. */
    private void changeAround() throws Exception {
        call("lay");
        int acts = 1 + below(5);
        for (int i = 0; i < acts; i++) {
            int block = 1 << below(5);
            int[] s = someSpan();
            switch (below(5)) {
                case 0 -> call("clear", below(10));
                case 1, 2 -> call("set", below(10), below(size / block) * block, block, someKind());
                case 3 -> call("span", s[0], s[1], someKind());
                default -> call("drop", below(6));
            }
        }
        for (int i = 0; i < 3; i++) {
            call("change", i);
        }
        for (int i = 0; i < 13; i++) {
            call("order", i);
            call("stir", i);
        }
    }

    private static List<Method> face() {
        List<Method> all = new ArrayList<>();
        for (Method m : SpanKinds.class.getDeclaredMethods()) {
            if (Modifier.isPublic(m.getModifiers())) {
                all.add(m);
            }
        }
        all.sort((a, b) -> a.getName().compareTo(b.getName()));
        return all;
    }

    private static int oneRun(int number) throws Exception {
        seed = number * 7919L + 13;
        size = 256;
        RandomRunsTest run = new RandomRunsTest();
        int space = below(12) == 0 ? 7 + below(4) : 4 + below(3);
        int calls = space > 6 ? 40 : 150;
        List<Method> methods = face();
        if (below(3) == 0) {
            run.giveStore(broken(someStore(space)));
        }
        run.giveStore(someStore(space));
        for (int i = 0; i < calls; i++) {
            if (below(3) == 0) {
                run.someAct();
            } else {
                run.anyCall(methods);
            }
            if (below(60) == 0 && size <= 64) {
                run.askAll();
            }
            if (below(40) == 0 && size <= 64) {
                run.changeAround();
            }
            if (below(80) == 0) {
                run.giveStore(below(2) == 0 ? someStore(4 + below(3)) : broken(someStore(4 + below(3))));
            }
        }
        return run.calls;
    }

    private void sample(String name) throws Exception {
        int n = (Integer) call(name, -1, 7)[0];
        for (int i = 0; i < 6; i++) {
            int at = i == 0 ? n - 1 : i == 1 ? n : below(n + 1);
            for (int what = 0; what < 3; what++) {
                call(name, at, what);
            }
        }
    }

    /** The greatest SPACE, cut in as many places as can be: the most blocks that there are. */
    private static int crowded(int number) throws Exception {
        seed = number * 31337L + 3;
        RandomRunsTest run = new RandomRunsTest();
        StringBuilder text = new StringBuilder("space 10;registers 10;default " + KINDS[someKind()] + ";");
        int step = 1024 / 12;
        for (int i = 0; i < 12; i++) {
            int from = i * step + 1 + 2 * below(10);
            int to = from + 2 * (5 + below(20));
            text.append("span ").append(from).append(' ').append(to).append(' ').append(KINDS[someKind()]).append(';');
        }
        if (below(2) == 0) {
            text.append("fixed ").append(3 + below(4)).append(" none none none none none none none none;");
        }
        run.giveStore(text.toString());
        run.sample("plan");
        run.sample("pagedPlan");
        run.call("withPages", 1);
        for (int i = 0; i < 5; i++) {
            run.call("pageFor", below(64));
            run.call("most", 6 + i);
            run.call("bestSet", 10, 2 * i, 0);
            run.call("byDefault", i);
        }
        run.call("cost", 0);
        run.call("tidy");
        run.call("mend");
        run.call("strange", 0);
        run.call("bits", 0);
        run.call("besides", 1, 4, 1);
        return run.calls;
    }

    private static int brokenTexts(int number) throws Exception {
        seed = number * 104729L + 5;
        size = 256;
        RandomRunsTest run = new RandomRunsTest();
        for (int i = 0; i < 20; i++) {
            run.giveStore(broken(someStore(4 + below(7))));
            run.call("about", 2);
            run.call("about", 4);
            run.call("about", 5);
            run.call("about", 11);
        }
        return run.calls;
    }

    public static void main(String[] args) throws Exception {
        int runs = args.length > 0 ? Integer.parseInt(args[0]) : 160;
        long calls = 0;
        for (int i = 0; i < runs; i++) {
            calls += oneRun(i);
            calls += brokenTexts(i);
            calls += i % 40 == 0 ? crowded(i) : 0;
        }
        System.out.println(calls + " calls are answered alike");
    }
}
