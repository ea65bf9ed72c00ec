import java.lang.reflect.Method;
import java.util.Arrays;
import java.util.function.Consumer;

/**
 * Each call that the document refuses, one beyond each end of what can be and far beyond: it answers
 * as it should, and nothing else is other than without it; and no question changes anything.
 */
public final class RefusedCallsTest extends Bench {
    private static final int[] FAR = {Integer.MIN_VALUE, Integer.MIN_VALUE + 1, -(1 << 30), -65536, -2001, -2000, -1024,
        -256, -16, -8, -3, -2, -1, 33, 64, 256, 1024, 2000, 4096, 65536, 1 << 28, 1 << 30, Integer.MAX_VALUE - 1,
        Integer.MAX_VALUE};
    private static final Consumer<SpanKinds> AS_IT_IS = x -> { };

    private static int call(SpanKinds x, String name, int... args) {
        Class<?>[] types = new Class<?>[args.length];
        Arrays.fill(types, int.class);
        try {
            Method method = SpanKinds.class.getMethod(name, types);
            Object answer = method.invoke(x, Arrays.stream(args).boxed().toArray());
            return answer instanceof Boolean ? one((Boolean) answer) : (Integer) answer;
        } catch (ReflectiveOperationException e) {
            fail(name + Arrays.toString(args) + " threw " + e.getCause());
            return 0;
        }
    }

    private static void refuse(Consumer<SpanKinds> ahead, String name, int answer, int... args) {
        leaves(name + Arrays.toString(args), ahead, x -> call(x, name, args), answer);
    }

    private static void refuse(String name, int answer, int... args) {
        refuse(AS_IT_IS, name, answer, args);
    }

    private static int[] with(int[] args, int position, int value) {
        int[] others = args.clone();
        others[position] = value;
        return others;
    }

    /** From least to greatest an argument can be: at both it is no refused call, outside it is. */
    private static void range(String name, int refusal, int position, int least, int greatest, int... args) {
        outside(name, refusal, position, least, greatest, args);
        due(name + " at the least", call(rich(), name, with(args, position, least)) != refusal, true);
        due(name + " at the greatest", call(rich(), name, with(args, position, greatest)) != refusal, true);
    }

    private static void outside(String name, int refusal, int position, int least, int greatest, int... args) {
        refuse(name, refusal, with(args, position, least - 1));
        refuse(name, refusal, with(args, position, greatest + 1));
        for (int value : FAR) {
            if (value < least || value > greatest) {
                refuse(name, refusal, with(args, position, value));
            }
        }
    }

    /** As range(), but NONE asks how many there are, whatever the next argument is. */
    private static void listed(String name, int position, int... args) {
        int count = call(rich(), name, with(args, position, -1));
        due(name + " has some", count > 0, true);
        for (int what : FAR) {
            leaves(name + " how many, what " + what,
                x -> call(x, name, with(with(args, position, -1), position + 1, what)), count);
        }
        for (int value : FAR) {
            if (value < -1 || value >= count) {
                refuse(name, -1, with(args, position, value));
            }
        }
        refuse(name, -1, with(args, position, count));
        due(name + " the first", call(rich(), name, with(args, position, 0)) >= 0, true);
        due(name + " the last", call(rich(), name, with(args, position, count - 1)) >= 0, true);
    }

    private static void acts() {
        at("promise 6: NONE, doing nothing, if it can't be");
        range("span", -1, 0, 0, 31, 0, 31, 0);
        range("span", -1, 1, 5, 31, 5, 31, 0);
        range("span", -1, 2, 0, 4, 5, 9, 0);
        refuse("span", -1, 31, 30, 0);
        refuse("span", -1, 1, 0, 0);
        at("promise 6: or there are 12");
        refuse(x -> fill(x, 12), "span", -1, 0, 0, 0);
        due("there are 11", call(filled(11), "span", 0, 0, 0), 11);
        at("promise 7: NONE, doing nothing, if there is none such");
        range("drop", -1, 0, 0, 1, 0);
        refuse(x -> fill(x, 12), "drop", -1, 12);
        refuse(x -> fill(x, 0), "drop", -1, 0);
        at("promise 8: NONE, doing nothing, for another number");
        range("prefer", -1, 0, 0, 4, 0);
        at("promise 9: NONE, doing nothing, if one can't be");
        range("fix", -1, 0, 0, 7, 0, 3);
        range("fix", -1, 1, 0, 4, 7, 0);
        at("promise 9: or nothing is FIXED");
        for (int part = 0; part < 8; part++) {
            refuse(x -> restore(x, "space 4;"), "fix", -1, part, part % 5);
        }
        at("promise 13: NONE, doing nothing, if one can't be");
        range("page", -1, 0, 0, 1, 0, 5);
        range("page", -1, 1, 0, 5, 1, 5);
    }

    private static void registers() {
        at("promise 10: false, and nothing happens, if one can't be");
        range("set", 0, 0, 0, 2, 0, 31, 1, 4);
        range("set", 0, 1, 0, 31, 2, 0, 1, 0);
        range("set", 0, 3, 0, 4, 2, 0, 1, 0);
        for (int size = -1; size <= 65; size++) {
            boolean can = size == 1 || size == 2 || size == 4 || size == 8 || size == 16 || size == 32;
            if (can) {
                due("size " + size, call(rich(), "set", 1, 0, size, 1), 1);
            } else {
                refuse("set", 0, 1, 0, size, 1);
            }
            for (int base = 0; can && base < 32; base++) {
                due("base " + base + " of " + size, call(rich(), "set", 0, base, size, 1),
                    base % size == 0 && !(base == 0 && size == 16) ? 1 : 0);
            }
        }
        for (int size : FAR) {
            refuse("set", 0, 2, 0, size, 1);
        }
        refuse("set", 0, 2, 1, 2, 0);
        refuse("set", 0, 2, 16, 32, 0);
        refuse("set", 0, 2, 32, 32, 0);
        at("promise 10: or another REGISTER has the same block");
        refuse("set", 0, 2, 16, 4, 2);
        refuse("set", 0, 2, 16, 4, 0);
        refuse("set", 0, 0, 0, 16, 3);
        due("it has it itself", call(rich(), "set", 0, 16, 4, 2), 1);
        due("it has it itself, of another kind", call(rich(), "set", 0, 16, 4, 0), 1);
        due("the same base, another size", call(rich(), "set", 2, 16, 8, 2), 1);
        due("the same size, another base", call(rich(), "set", 2, 20, 4, 2), 1);
        SpanKinds x = rich();
        x.clear(0);
        due("it is EMPTY now", call(x, "set", 2, 16, 4, 2), 1);
        at("promise 11: false, and nothing happens, if it is, or there is none such");
        range("clear", 0, 0, 0, 1, 0);
        refuse("clear", 0, 2);
        refuse(y -> y.clear(0), "clear", 0, 0);
        due("the last one", call(of("registers 10;reg 0 1 none;"), "clear", 9), 0);
        SpanKinds ten = of("registers 10;");
        due("the last one set", call(ten, "set", 9, 255, 1, 4), 1);
        due("the last one cleared", call(ten, "clear", 9), 1);
        refuse(y -> restore(y, "registers 1;"), "set", 0, 1, 0, 1, 0);
        refuse(y -> restore(y, "registers 10;"), "set", 0, 10, 0, 1, 0);
    }

    private static void tooFew() {
        String four = "space 4;registers %d;span 0 0 back;span 3 3 back;span 6 6 back;span 9 9 back;reg 15 1 thru;page 0 none;";
        at("promise 12: NONE, doing nothing, if there are too few");
        refuse(x -> restore(x, String.format(four, 3)), "lay", -1);
        due("as many", call(of(String.format(four, 4)), "lay"), 4);
        due("one more", call(of(String.format(four, 5)), "lay"), 4);
        refuse(x -> restore(x, String.format(four, 1)), "lay", -1);
        at("promise 15: NONE, doing nothing, if there are too few REGISTERS");
        refuse(x -> restore(x, String.format(four, 3)), "layAll", -1);
        due("as many", call(of(String.format(four, 4)), "layAll"), 4);
        refuse(x -> restore(x, String.format(four, 1)), "layAll", -1);
        at("promise 16: NONE, doing nothing, if these are more than 12");
        String runs = "span 0 100 comb;" + stripes(6);
        refuse(x -> restore(x, runs), "tidy", -1);
        due("7 and 6", call(of(runs), "about", 6), 14);
        due("6 and 5 and one", call(of("span 0 100 comb;" + stripes(5) + "span 120 120 comb;"), "tidy"), 12);
        refuse(x -> restore(x, "span 0 100 comb;" + stripes(11)), "tidy", -1);
        due("as few as none", call(of("span 0 100 none;"), "tidy"), 0);
        at("promises 17 and 18: false if there is none");
        refuse(x -> restore(x, ""), "undo", 0);
        refuse(x -> restore(x, ""), "redo", 0);
        refuse(x -> x.redo(), "redo", 0);
        refuse(x -> {
            x.undo();
            x.undo();
        }, "undo", 0);
        refuse(x -> x.back(1), "undo", 0);
        refuse(x -> x.back(1), "redo", 0);
        refuse(x -> x.mend(), "redo", 0);
    }

    private static void boxes() {
        at("promise 47: NONE if there is none such");
        range("image", -1, 0, 0, 1, 0);
        at("promise 48: NONE if nothing was kept, there is no such BOX, or for another what");
        outside("differs", -1, 0, 1, 1, 1, 0);
        outside("differs", -1, 1, 0, 2, 1, 0);
        refuse("differs", -1, 0, 1);
        refuse("differs", -1, 0, 2);
        refuse(x -> {
            x.image(0);
            x.store();
        }, "differs", -1, 0, 2);
        at("promise 49: NONE, doing nothing, if nothing was, or there is no such BOX");
        outside("back", -1, 0, 1, 1, 1);
        refuse(x -> {
            x.image(0);
            x.store();
        }, "back", -1, 0);
        due("kept", call(rich(), "back", 1), 1);
    }

    private static void whats() {
        at("promise 5: NONE for another what");
        outside("fault", -1, 0, 0, 1, 0);
        at("promise 19: NONE if there is none such, or for another what");
        range("told", -1, 0, 0, 1, 0, 0);
        range("told", -1, 1, 0, 2, 1, 0);
        at("promise 20: NONE if it is EMPTY, there is none such, or for another what");
        range("register", -1, 0, 0, 1, 0, 0);
        range("register", -1, 1, 0, 2, 1, 0);
        refuse("register", -1, 2, 0);
        refuse("register", -1, 2, 1);
        refuse("register", -1, 2, 2);
        at("promise 27: NONE for another what");
        range("strange", -1, 0, 0, 1, 0);
        at("promise 29: NONE for another what");
        range("withPages", -1, 0, 0, 1, 0);
        at("promise 32: NONE for another what");
        range("wrong", -1, 0, 0, 3, 0);
        at("promise 33: NONE for another what");
        range("cost", -1, 0, 0, 1, 0);
        at("promise 42: NONE for another what");
        range("change", -1, 0, 0, 2, 0);
        at("promise 45: NONE if there is none, or for another what");
        range("block", -1, 1, 0, 1, 4, 0);
        outside("block", -1, 0, 0, 4, 0, 0);
        outside("block", -1, 0, 0, 4, 0, 1);
        refuse("block", -1, 0, 0);
        refuse("block", -1, 3, 1);
        at("promise 50: NONE for another what");
        range("about", -1, 0, 0, 11, 0);
    }

    private static void noneSuch() {
        at("promise 21: NONE if there is none such");
        range("part", -1, 0, 0, 7, 0);
        refuse(x -> restore(x, "space 4;"), "part", -1, 0);
        refuse(x -> restore(x, "space 4;"), "part", -1, 7);
        at("promises 22, 23, 26: NONE if there is none such");
        for (String name : new String[] {"wanted", "kind", "seen"}) {
            range(name, -1, 0, 0, 31, 0);
            refuse(x -> restore(x, "space 4;"), name, -1, 16);
            refuse(x -> restore(x, "space 10;"), name, -1, 1024);
            due(name, call(of("space 10;"), name, 1023), 0);
        }
        at("promises 25, 28, 31: NONE if there is none such");
        for (String name : new String[] {"paged", "mendable", "pageFor"}) {
            outside(name, -1, 0, 0, 1, 0);
            refuse(x -> restore(x, "space 4;"), name, -1, 1);
            refuse(x -> restore(x, "space 10;"), name, -1, 64);
            due(name, call(of("space 4;"), name, 0), 5);
            due(name, call(of("space 10;"), name, 63), 5);
        }
        at("promises 24, 30, 34: NONE if there is none such, or for another what");
        for (String name : new String[] {"run", "pagedPlan", "plan"}) {
            listed(name, 0, 0, 0);
            range(name, -1, 1, 0, 2, 0, 0);
        }
        at("promise 35: NONE if there is no such KIND");
        range("byDefault", -1, 0, 0, 4, 0);
        at("promise 37: NONE for another r");
        range("most", -1, 0, 0, 10, 0);
        at("promise 38: NONE if there is none such, for another r, what");
        listed("bestSet", 1, 3, 0, 0);
        range("bestSet", -1, 2, 0, 2, 3, 0, 0);
        range("bestSet", -1, 0, 1, 10, 1, 0, 0);
        range("bestSet", -1, 0, 0, 10, 0, -1, 0);
        at("promise 39: NONE if it is EMPTY, or there is none such");
        range("idle", -1, 0, 0, 1, 0);
        refuse("idle", -1, 2);
        at("promise 40: -2,000 if it is so already, or there is none such");
        range("without", -2000, 0, 0, 1, 0);
        refuse("without", -2000, 2);
        at("promises 43, 44: NONE if there is none such");
        int steps = rich().change(0);
        for (String name : new String[] {"order", "stir"}) {
            range(name, -1, 0, 0, steps - 1, 0);
        }
        at("promise 46: NONE if there is no such KIND (0 .. 5)");
        range("bits", -1, 0, 0, 5, 0);
    }

    private static void besides() {
        at("promise 41: -2,000 if there is no such size, KIND, for another what");
        range("besides", -2000, 1, 0, 4, 8, 0, 0);
        range("besides", -2000, 2, 0, 1, 8, 0, 0);
        for (int size = -2; size <= 66; size++) {
            boolean can = size > 0 && size <= 32 && Integer.bitCount(size) == 1;
            if (can) {
                due("size " + size, rich().besides(size, 0, 0) != -2000, true);
            } else {
                refuse("besides", -2000, size, 0, 0);
                refuse("besides", -2000, size, 0, 1);
            }
        }
        for (int size : FAR) {
            refuse("besides", -2000, size, 4, 1);
        }
        at("promise 41: or no block of that size is of no REGISTER");
        Consumer<SpanKinds> taken = x -> restore(x, "space 4;reg 0 16 none;reg 0 8 back;reg 8 8 comb;reg 4 4 thru;reg 8 4 thru;");
        for (int kind = 0; kind < 5; kind++) {
            refuse(taken, "besides", -2000, 16, kind, 0);
            refuse(taken, "besides", -2000, 16, kind, 1);
            refuse(taken, "besides", -2000, 8, kind, 0);
            refuse(taken, "besides", -2000, 8, kind, 1);
            leaves("besides where some are left", taken, x -> x.besides(4, 4, 1), 0);
        }
    }

    /** Every question with all that can be asked: nothing is other than without it. */
    private static void questions() {
        at("(Nothing is done; so below.)");
        String[] names = {"fault 2", "told 2 3", "register 3 3", "part 8", "wanted 32", "kind 32", "run 4 3", "paged 2", "seen 32",
            "strange 2", "mendable 2", "withPages 2", "pagedPlan 3 3", "pageFor 2", "wrong 4", "cost 2", "plan 3 3",
            "byDefault 5", "bestDefault", "most 11", "bestSet 11 5 3", "idle 3", "without 3", "besides 33 5 2", "change 3",
            "order 12", "stir 12", "block 5 2", "bits 6", "differs 2 3", "about 12"};
        for (String line : names) {
            String[] parts = line.split(" ");
            int[] below = new int[parts.length - 1];
            for (int i = 0; i < below.length; i++) {
                below[i] = Integer.parseInt(parts[i + 1]);
            }
            askAll(parts[0], below, new int[below.length], 0);
        }
    }

    private static void askAll(String name, int[] below, int[] args, int position) {
        for (int i = 0; position < args.length && i < below[position]; i++) {
            args[position] = i;
            askAll(name, below, args, position + 1);
        }
        if (position == args.length) {
            SpanKinds x = rich();
            int first = call(x, name, args);
            due(name + Arrays.toString(args) + " again", call(x, name, args), first);
            due("what is left behind " + name + Arrays.toString(args), allOf(x), UNTOUCHED[0]);
        }
    }

    private static final String[] UNTOUCHED = {allOf(rich())};

    private static void restore(SpanKinds x, String text) {
        write(x, text);
        if (x.store() < 0) {
            fail("not a store: " + text);
        }
    }

    private static void fill(SpanKinds x, int spans) {
        restore(x, "space 5;" + times("span 3 4 comb;", spans));
    }

    private static SpanKinds filled(int spans) {
        SpanKinds x = rich();
        fill(x, spans);
        return x;
    }

    private static String stripes(int n) {
        StringBuilder text = new StringBuilder();
        for (int i = 0; i < n; i++) {
            text.append("span ").append(2 * i + 1).append(' ').append(2 * i + 1).append(" back;");
        }
        return text.toString();
    }

    public static void main(String[] args) {
        acts();
        registers();
        tooFew();
        boxes();
        whats();
        noneSuch();
        besides();
        questions();
        finish();
    }
}
