import java.util.function.Consumer;
import java.util.function.ToIntFunction;

/** What the tests share: texts given to the class, answers looked at, and all that can be seen of an object. */
class Bench {
    private static int wrong = 0;
    private static int looked = 0;
    private static String where = "";

    /** A sentence of the document: what is looked at behind it is told with it. */
    static void at(String sentence) {
        where = sentence;
    }

    static void due(String what, long got, long want) {
        looked++;
        if (got != want) {
            fail(what + " answered " + got + ", due is " + want);
        }
    }

    static void due(String what, boolean got, boolean want) {
        due(what, got ? 1 : 0, want ? 1 : 0);
    }

    static void due(String what, String got, String want) {
        looked++;
        if (!got.equals(want)) {
            int from = firstOther(got, want);
            fail(what + " answered .." + got.substring(from, Math.min(got.length(), from + 60)) + ".., due is .."
                + want.substring(from, Math.min(want.length(), from + 60)) + "..");
        }
    }

    private static int firstOther(String a, String b) {
        int i = 0;
        while (i < a.length() && i < b.length() && a.charAt(i) == b.charAt(i)) {
            i++;
        }
        return Math.max(0, i - 15);
    }

    static void fail(String what) {
        wrong++;
        System.out.println(where + ": " + what);
    }

    static int looked() {
        return looked;
    }

    static void finish() {
        System.out.println(looked + " answers looked at, " + wrong + " not as due");
        if (wrong != 0) {
            System.exit(1);
        }
    }

    static String times(String text, int n) {
        return text.repeat(n);
    }

    /** The text is all that is on the TAPE then. */
    static void write(SpanKinds x, String text) {
        x.end(0);
        for (int i = 0; i < text.length(); i += 20) {
            int[] five = new int[5];
            for (int j = 0; j < 20; j++) {
                five[j / 4] = five[j / 4] << 8 | (i + j < text.length() ? text.charAt(i + j) : ' ');
            }
            x.feed(five[0], five[1], five[2], five[3], five[4]);
        }
        x.end(text.length());
    }

    static SpanKinds of(String text) {
        SpanKinds x = new SpanKinds();
        write(x, text);
        if (x.store() < 0) {
            fail("not a store: " + text);
        }
        return x;
    }

    static void faulty(String text, int fault, int place) {
        SpanKinds x = new SpanKinds();
        write(x, text);
        due("store of '" + text + "'", x.store(), -1);
        due("fault(0) of '" + text + "'", x.fault(0), fault);
        due("fault(1) of '" + text + "'", x.fault(1), place);
    }

    static void good(String text, int spans) {
        SpanKinds x = new SpanKinds();
        write(x, text);
        due("store of '" + text + "'", x.store(), spans);
        due("fault(0) of '" + text + "'", x.fault(0), 0);
        due("fault(1) of '" + text + "'", x.fault(1), -1);
    }

    private static void list(StringBuilder all, String name, int... numbers) {
        all.append(name);
        for (int number : numbers) {
            all.append(' ').append(number);
        }
        all.append("; ");
    }

    /**
     * All that there is, as far as it can be asked for without finding anything out; in few calls, as
     * nothing is promised behind an object's 512th.
     */
    static String seenOf(SpanKinds x) {
        StringBuilder all = new StringBuilder();
        int[] abouts = new int[12];
        for (int i = 0; i < 12; i++) {
            abouts[i] = x.about(i);
            list(all, "about " + i, abouts[i]);
        }
        list(all, "fault", x.fault(0), x.fault(1));
        for (int i = 0; i < abouts[4]; i++) {
            list(all, "span", x.told(i, 0), x.told(i, 1), x.told(i, 2));
        }
        for (int i = 0; i < abouts[1]; i++) {
            list(all, "register", x.register(i, 0), x.register(i, 1), x.register(i, 2));
        }
        for (int i = 0; i < 8; i++) {
            list(all, "part", x.part(i));
        }
        for (int i = 0; i < abouts[10]; i++) {
            list(all, "page", x.paged(i));
        }
        for (int box = 0; box < 2; box++) {
            list(all, "box", x.differs(box, 0), x.differs(box, 1), x.differs(box, 2));
        }
        return all.toString();
    }

    /** As above, and what UNDO, REDO, both BOXES and the TAPE bring: little is left of the object then. */
    static String allOf(SpanKinds x) {
        StringBuilder all = new StringBuilder(seenOf(x));
        for (int i = 0; i < 17 && x.redo(); i++) {
            all.append("\n REDO ").append(seenOf(x));
        }
        for (int i = 0; i < 17 && x.undo(); i++) {
            all.append("\n UNDO ").append(seenOf(x));
        }
        for (int box = 0; box < 2; box++) {
            list(all, "\n BACK", x.back(box));
            all.append(seenOf(x));
        }
        list(all, "\n STORE", x.store());
        return all.append(seenOf(x)).toString();
    }

    /** A store with something of everything: SPANS, REGISTERS, PAGES, PARTS, ACTS both ways, a BOX, a TAPE. */
    static SpanKinds rich() {
        SpanKinds x = of("space 5;registers 3;default back;fixed 3 none comb thru prot back none comb thru;"
            + "span 12 17 thru;reg 16 4 thru;page 1 prot;");
        x.set(1, 0, 16, 0);
        x.image(1);
        x.span(24, 31, 1);
        x.page(0, 2);
        x.undo();
        x.feed(0x7370616e, 0x20302039, 0x20636f6d, 0x623b2020, 0x20202020);
        return x;
    }

    /** The call answers so, and nothing else of all that can be seen is other than without it. */
    static void leaves(String what, Consumer<SpanKinds> ahead, ToIntFunction<SpanKinds> call, int answer) {
        SpanKinds x = rich();
        SpanKinds twin = rich();
        ahead.accept(x);
        ahead.accept(twin);
        due(what, call.applyAsInt(x), answer);
        due("what is left behind " + what, allOf(x), allOf(twin));
    }

    static void leaves(String what, ToIntFunction<SpanKinds> call, int answer) {
        leaves(what, x -> { }, call, answer);
    }

    static int one(boolean truth) {
        return truth ? 1 : 0;
    }
}
