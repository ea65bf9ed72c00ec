import java.util.ArrayList;
import java.util.Arrays;
import java.util.HashMap;
import java.util.List;
import java.util.Map;
import java.util.TreeSet;

/**
 * The document told once more, address by address and without any shortcut, for RandomRunsTest:
 * slow, and written apart from the class, so that the two are not wrong in the same way.
 */
public final class Reference {
    private static final int NONE = -1;
    private static final String[] KIND_WORDS = {"none", "comb", "thru", "prot", "back"};

    static final class State {
        int space = 8;
        int registers = 8;
        int preferred = 0;
        int fixedPower = 0;
        int[] parts = new int[8];
        List<int[]> spans = new ArrayList<>();
        int[][] regs = new int[10][];
        int[] pages = new int[64];

        State() {
            Arrays.fill(pages, 5);
        }

        State copy() {
            State s = new State();
            s.space = space;
            s.registers = registers;
            s.preferred = preferred;
            s.fixedPower = fixedPower;
            s.parts = parts.clone();
            for (int[] span : spans) {
                s.spans.add(span.clone());
            }
            for (int i = 0; i < 10; i++) {
                s.regs[i] = regs[i] == null ? null : regs[i].clone();
            }
            s.pages = pages.clone();
            return s;
        }

        int size() {
            return 1 << space;
        }

        int fixed() {
            return fixedPower == 0 ? 0 : 1 << fixedPower;
        }

        int wanted(int address) {
            int answer = preferred;
            for (int[] span : spans) {
                if (span[0] <= address && address <= span[1]) {
                    answer = span[2];
                }
            }
            return answer;
        }

        int kindBy(int address, List<int[]> blocks) {
            if (address < fixed()) {
                return parts[address / (fixed() / 8)];
            }
            TreeSet<Integer> kinds = new TreeSet<>();
            for (int[] block : blocks) {
                if (block != null && block[0] <= address && address < block[0] + block[1]) {
                    kinds.add(block[2]);
                }
            }
            return kinds.isEmpty() ? preferred : together(kinds);
        }

        List<int[]> blocks() {
            List<int[]> all = new ArrayList<>();
            for (int i = 0; i < registers; i++) {
                if (regs[i] != null) {
                    all.add(regs[i]);
                }
            }
            return all;
        }

        int kind(int address) {
            return kindBy(address, blocks());
        }
    }

    static int together(TreeSet<Integer> kinds) {
        if (kinds.size() == 1 || kinds.first() == 0) {
            return kinds.first();
        }
        return kinds.equals(new TreeSet<>(List.of(2, 4))) ? 2 : 5;
    }

    static int seenAs(int p, int k) {
        if (p == 5) {
            return k;
        }
        if (k == 5) {
            return 5;
        }
        if (p == 2 && k == 3 || p == 3 && k == 2) {
            return 0;
        }
        return Math.min(p, k);
    }

    private State state = new State();
    private byte[] tape = new byte[0];
    private int fault = 0;
    private int place = NONE;
    private final List<State> past = new ArrayList<>();
    private final List<State> future = new ArrayList<>();
    private final State[] boxes = new State[2];

    private void ahead() {
        past.add(state.copy());
        future.clear();
        if (past.size() > 16) {
            past.remove(0);
        }
    }

    public int feed(int a, int b, int c, int d, int e) {
        if (tape.length > 780) {
            return NONE;
        }
        byte[] longer = Arrays.copyOf(tape, tape.length + 20);
        int[] all = {a, b, c, d, e};
        for (int i = 0; i < 20; i++) {
            longer[tape.length + i] = (byte) (all[i / 4] >> 8 * (3 - i % 4));
        }
        tape = longer;
        return tape.length;
    }

    public int end(int n) {
        if (n < 0 || n > tape.length) {
            return NONE;
        }
        tape = Arrays.copyOf(tape, n);
        return n;
    }

    /** All tokens first, each {type, place, number} with its text; then line by line. */
    private static final class Parser {
        final List<String> texts = new ArrayList<>();
        final List<Integer> places = new ArrayList<>();
        final State s = new State();
        int i = 0;
        int fault = 0;
        int place = NONE;

        Parser(String text) {
            java.util.regex.Matcher m =
                java.util.regex.Pattern.compile("[ \\n]+|[a-z]+|[0-9]+|[\\x00-\\xff]").matcher(text);
            while (m.find()) {
                String t = m.group();
                if (t.charAt(0) != ' ' && t.charAt(0) != '\n') {
                    texts.add(t);
                    places.add(m.start());
                }
            }
            texts.add("");
            places.add(text.length());
        }

        static final class Stop extends Exception {
            private static final long serialVersionUID = 1L;
        }

        void stop(int what) throws Stop {
            fault = what;
            place = places.get(i);
            throw new Stop();
        }

        int number(int low, int high) throws Stop {
            String t = texts.get(i);
            if (!t.matches("[0-9]+")) {
                stop(1);
            }
            java.math.BigInteger n = new java.math.BigInteger(t);
            if (n.bitLength() > 20 || n.intValue() < low || n.intValue() > high) {
                stop(2);
            }
            i++;
            return n.intValue();
        }

        int kind() throws Stop {
            int k = Arrays.asList(KIND_WORDS).indexOf(texts.get(i));
            if (k < 0) {
                stop(1);
            }
            i++;
            return k;
        }

        void semicolon() throws Stop {
            if (!texts.get(i).equals(";")) {
                stop(1);
            }
            i++;
        }

        void lines() throws Stop {
            TreeSet<String> told = new TreeSet<>();
            while (!texts.get(i).isEmpty()) {
                String w = texts.get(i);
                boolean head = List.of("space", "registers", "default").contains(w);
                boolean behind = told.contains("fixed") || told.contains("span") || told.contains("reg")
                    || told.contains("page");
                if (head && (behind || told.contains(w)) || w.equals("fixed") && told.contains(w)) {
                    stop(3);
                }
                told.add(w);
                line(w);
            }
        }

        void line(String w) throws Stop {
            int used = s.blocks().size();
            if (w.equals("span") && s.spans.size() == 12 || w.equals("reg") && used == s.registers) {
                stop(4);
            }
            if (!List.of("space", "registers", "default", "fixed", "span", "reg", "page").contains(w)) {
                stop(1);
            }
            i++;
            switch (w) {
                case "space" -> s.space = number(4, 10);
                case "registers" -> s.registers = number(1, 10);
                case "default" -> s.preferred = kind();
                case "fixed" -> {
                    s.fixedPower = number(3, s.space);
                    int n = 0;
                    s.parts[n++] = kind();
                    while (Arrays.asList(KIND_WORDS).contains(texts.get(i))) {
                        if (n == 8) {
                            stop(4);
                        }
                        s.parts[n++] = kind();
                    }
                    if (n < 8 && texts.get(i).equals(";")) {
                        stop(4);
                    }
                }
                case "span" -> {
                    int from = number(0, s.size() - 1);
                    int to = number(from, s.size() - 1);
                    s.spans.add(new int[] {from, to, kind()});
                }
                case "reg" -> {
                    int base = number(0, s.size() - 1);
                    int size = number(0, s.size());
                    i--;
                    if (Integer.bitCount(size) != 1 || base % size != 0) {
                        stop(2);
                    }
                    for (int[] block : s.blocks()) {
                        if (block[0] == base && block[1] == size) {
                            stop(3);
                        }
                    }
                    i++;
                    s.regs[used] = new int[] {base, size, kind()};
                }
                default -> {
                    int p = number(0, s.size() / 16 - 1);
                    i--;
                    if (s.pages[p] != 5) {
                        stop(3);
                    }
                    i++;
                    s.pages[p] = kind();
                }
            }
            semicolon();
        }
    }

    public int store() {
        StringBuilder text = new StringBuilder();
        for (byte b : tape) {
            text.append((char) (b & 255));
        }
        tape = new byte[0];
        Parser parser = new Parser(text.toString());
        try {
            parser.lines();
        } catch (Parser.Stop stop) {
            fault = parser.fault;
            place = parser.place;
            return NONE;
        }
        fault = 0;
        place = NONE;
        state = parser.s;
        past.clear();
        future.clear();
        boxes[0] = null;
        boxes[1] = null;
        return state.spans.size();
    }

    public int fault(int what) {
        return what == 0 ? fault : what == 1 ? place : NONE;
    }

    private static boolean isKind(int k) {
        return k >= 0 && k <= 4;
    }

    public int span(int from, int to, int kind) {
        if (from < 0 || to < from || to >= state.size() || !isKind(kind) || state.spans.size() == 12) {
            return NONE;
        }
        ahead();
        state.spans.add(new int[] {from, to, kind});
        return state.spans.size() - 1;
    }

    public int drop(int span) {
        if (span < 0 || span >= state.spans.size()) {
            return NONE;
        }
        ahead();
        state.spans.remove(span);
        return state.spans.size();
    }

    public int prefer(int kind) {
        if (!isKind(kind)) {
            return NONE;
        }
        ahead();
        int was = state.preferred;
        state.preferred = kind;
        return was;
    }

    public int fix(int part, int kind) {
        if (part(part) == NONE || !isKind(kind)) {
            return NONE;
        }
        ahead();
        int was = state.parts[part];
        state.parts[part] = kind;
        return was;
    }

    public boolean set(int register, int base, int size, int kind) {
        if (register < 0 || register >= state.registers || !isKind(kind) || !sizes().contains(size)
            || base < 0 || base >= state.size() || base % size != 0) {
            return false;
        }
        for (int i = 0; i < state.registers; i++) {
            int[] r = state.regs[i];
            if (i != register && r != null && r[0] == base && r[1] == size) {
                return false;
            }
        }
        ahead();
        state.regs[register] = new int[] {base, size, kind};
        return true;
    }

    private List<Integer> sizes() {
        List<Integer> all = new ArrayList<>();
        for (int s = 1; s <= state.size(); s *= 2) {
            all.add(s);
        }
        return all;
    }

    public boolean clear(int register) {
        if (register(register, 0) == NONE) {
            return false;
        }
        ahead();
        state.regs[register] = null;
        return true;
    }

    private void putAll(List<int[]> blocks) {
        for (int i = 0; i < 10; i++) {
            state.regs[i] = i < blocks.size() ? blocks.get(i).clone() : null;
        }
    }

    public int lay() {
        List<int[]> blocks = thePlan();
        if (blocks.size() > state.registers) {
            return NONE;
        }
        ahead();
        putAll(blocks);
        return blocks.size();
    }

    public int page(int page, int kind) {
        if (page < 0 || page >= state.size() / 16 || kind < 0 || kind > 5) {
            return NONE;
        }
        ahead();
        int was = state.pages[page];
        state.pages[page] = kind;
        return was;
    }

    public int mend() {
        ahead();
        int changed = 0;
        for (int p = 0; p < state.size() / 16; p++) {
            int m = mendable(p);
            if (m != NONE && state.pages[p] != m) {
                state.pages[p] = m;
                changed++;
            }
        }
        return changed;
    }

    public int layAll() {
        int[] kinds = new int[64];
        List<int[]> blocks = thePagedPlan(kinds);
        if (blocks.size() > state.registers) {
            return NONE;
        }
        ahead();
        putAll(blocks);
        System.arraycopy(kinds, 0, state.pages, 0, state.size() / 16);
        return blocks.size();
    }

    private List<int[]> runs() {
        List<int[]> all = new ArrayList<>();
        for (int a = 0; a < state.size(); a++) {
            int w = state.wanted(a);
            if (a > 0 && all.get(all.size() - 1)[2] == w) {
                all.get(all.size() - 1)[1] = a;
            } else {
                all.add(new int[] {a, a, w});
            }
        }
        return all;
    }

    public int tidy() {
        List<int[]> left = new ArrayList<>();
        for (int[] run : runs()) {
            if (run[2] != state.preferred) {
                left.add(run);
            }
        }
        if (left.size() > 12) {
            return NONE;
        }
        ahead();
        state.spans = left;
        return left.size();
    }

    public boolean undo() {
        if (past.isEmpty()) {
            return false;
        }
        future.add(state);
        state = past.remove(past.size() - 1);
        return true;
    }

    public boolean redo() {
        if (future.isEmpty()) {
            return false;
        }
        past.add(state);
        state = future.remove(future.size() - 1);
        return true;
    }

    private static int item(List<int[]> list, int i, int what) {
        if (i == NONE) {
            return list.size();
        }
        if (i < 0 || i >= list.size() || what < 0 || what > 2) {
            return NONE;
        }
        return list.get(i)[what];
    }

    public int told(int span, int what) {
        return span == NONE ? NONE : item(state.spans, span, what);
    }

    public int register(int register, int what) {
        if (register < 0 || register >= state.registers || state.regs[register] == null) {
            return NONE;
        }
        return what < 0 || what > 2 ? NONE : state.regs[register][what];
    }

    public int part(int part) {
        return state.fixedPower == 0 || part < 0 || part > 7 ? NONE : state.parts[part];
    }

    private boolean isAddress(int a) {
        return a >= 0 && a < state.size();
    }

    public int wanted(int address) {
        return isAddress(address) ? state.wanted(address) : NONE;
    }

    public int kind(int address) {
        return isAddress(address) ? state.kind(address) : NONE;
    }

    public int run(int i, int what) {
        return item(runs(), i, what);
    }

    public int paged(int page) {
        return page < 0 || page >= state.size() / 16 ? NONE : state.pages[page];
    }

    public int seen(int address) {
        return isAddress(address) ? seenAs(state.pages[address / 16], state.kind(address)) : NONE;
    }

    public int strange(int what) {
        int n = 0;
        int first = NONE;
        for (int a = state.size() - 1; a >= 0; a--) {
            if (seen(a) != state.wanted(a)) {
                n++;
                first = a;
            }
        }
        return what == 0 ? n : what == 1 ? first : NONE;
    }

    public int mendable(int page) {
        if (page < 0 || page >= state.size() / 16) {
            return NONE;
        }
        for (int p : new int[] {5, 0, 1, 2, 3, 4}) {
            boolean all = true;
            for (int a = 16 * page; a < 16 * page + 16; a++) {
                all &= a < state.fixed() || seenAs(p, state.kind(a)) == state.wanted(a);
            }
            if (all) {
                return p;
            }
        }
        return NONE;
    }

    /** Fewest blocks and which, as the document makes them; a thing that a block has: 0 .. 4, -1. */
    private final class Laying {
        final int preferred;
        final int[] wanted = new int[state.size()];
        final Map<Long, Integer> memo = new HashMap<>();
        final Map<Long, Integer> mostMemo = new HashMap<>();
        final List<int[]> laid = new ArrayList<>();

        Laying(int preferred) {
            this.preferred = preferred;
            int was = state.preferred;
            state.preferred = preferred;
            for (int a = 0; a < wanted.length; a++) {
                wanted[a] = a < state.fixed() ? NONE : state.wanted(a);
            }
            state.preferred = was;
        }

        int with(int has, int kind) {
            if (has == NONE) {
                return kind;
            }
            int t = together(new TreeSet<>(List.of(has, kind)));
            return t == 5 || t == has ? NONE : t;
        }

        int rights(int base, int size, int has, int p) {
            int n = 0;
            for (int a = base; a < base + size; a++) {
                n += wanted[a] != NONE && seenAs(p, has == NONE ? preferred : has) == wanted[a] ? 1 : 0;
            }
            return n;
        }

        int open(int base, int size) {
            return Math.max(0, base + size - Math.max(base, state.fixed()));
        }

        long key(int base, int size, int has, int p) {
            return ((base * 2048L + size) * 8 + has + 1) * 16 + p;
        }

        int fewest(int base, int size, int has, int p) {
            Integer known = memo.get(key(base, size, has, p));
            if (known != null) {
                return known;
            }
            int few = 100000;
            if (rights(base, size, has, p) == open(base, size)) {
                few = 0;
            } else {
                if (size > 1) {
                    few = fewest(base, size / 2, has, p) + fewest(base + size / 2, size / 2, has, p);
                }
                for (int k = 0; k < 5; k++) {
                    if (with(has, k) != NONE) {
                        few = Math.min(few, 1 + fewest(base, size, with(has, k), p));
                    }
                }
            }
            few = Math.min(few, 100000);
            memo.put(key(base, size, has, p), few);
            return few;
        }

        void lay(int base, int size, int has, int p) {
            int few = fewest(base, size, has, p);
            if (few == 0) {
                return;
            }
            if (size > 1
                && fewest(base, size / 2, has, p) + fewest(base + size / 2, size / 2, has, p) == few) {
                lay(base, size / 2, has, p);
                lay(base + size / 2, size / 2, has, p);
                return;
            }
            for (int k = 0; k < 5; k++) {
                int t = with(has, k);
                if (t != NONE && 1 + fewest(base, size, t, p) == few) {
                    laid.add(new int[] {base, size, k});
                    lay(base, size, t, p);
                    return;
                }
            }
        }

        int pageKind(int base, int has) {
            int best = 5;
            for (int p : new int[] {5, 0, 1, 2, 3, 4}) {
                if (fewest(base, 16, has, p) < fewest(base, 16, has, best)) {
                    best = p;
                }
            }
            return best;
        }

        int fewestPaged(int base, int size, int has) {
            if (size == 16) {
                return fewest(base, size, has, pageKind(base, has));
            }
            Integer known = memo.get(key(base, size, has, 9));
            if (known != null) {
                return known;
            }
            int few = fewestPaged(base, size / 2, has) + fewestPaged(base + size / 2, size / 2, has);
            for (int k = 0; k < 5; k++) {
                if (with(has, k) != NONE) {
                    few = Math.min(few, 1 + fewestPaged(base, size, with(has, k)));
                }
            }
            few = Math.min(few, 100000);
            memo.put(key(base, size, has, 9), few);
            return few;
        }

        void layPaged(int base, int size, int has, int[] kinds) {
            if (size == 16) {
                kinds[base / 16] = pageKind(base, has);
                lay(base, size, has, kinds[base / 16]);
                return;
            }
            int few = fewestPaged(base, size, has);
            int half = size / 2;
            if (fewestPaged(base, half, has) + fewestPaged(base + half, half, has) == few) {
                layPaged(base, half, has, kinds);
                layPaged(base + half, half, has, kinds);
                return;
            }
            for (int k = 0; k < 5; k++) {
                int t = with(has, k);
                if (t != NONE && 1 + fewestPaged(base, size, t) == few) {
                    laid.add(new int[] {base, size, k});
                    layPaged(base, size, t, kinds);
                    return;
                }
            }
        }

        int added(int base, int size) {
            if (rights(base, size, NONE, 5) == open(base, size)) {
                return 0;
            }
            for (int k = 0; k < 5; k++) {
                if (rights(base, size, k, 5) == open(base, size)) {
                    return 1;
                }
            }
            return added(base, size / 2) + added(base + size / 2, size / 2);
        }

        int most(int base, int size, int has, int r) {
            Integer known = mostMemo.get(key(base, size, has, r));
            if (known != null) {
                return known;
            }
            int best = rights(base, size, has, 5);
            for (int a = 0; a <= r && r > 0 && size > 1; a++) {
                int half = size / 2;
                best = Math.max(best, most(base, half, has, a) + most(base + half, half, has, r - a));
            }
            for (int k = 0; k < 5 && r > 0; k++) {
                if (with(has, k) != NONE) {
                    best = Math.max(best, most(base, size, with(has, k), r - 1));
                }
            }
            mostMemo.put(key(base, size, has, r), best);
            return best;
        }

        void layMost(int base, int size, int has, int r) {
            int best = most(base, size, has, r);
            if (rights(base, size, has, 5) == best) {
                return;
            }
            int half = size / 2;
            for (int a = 0; a <= r && size > 1; a++) {
                if (most(base, half, has, a) + most(base + half, half, has, r - a) == best) {
                    layMost(base, half, has, a);
                    layMost(base + half, half, has, r - a);
                    return;
                }
            }
            for (int k = 0; k < 5; k++) {
                int t = with(has, k);
                if (t != NONE && most(base, size, t, r - 1) == best) {
                    laid.add(new int[] {base, size, k});
                    layMost(base, size, t, r - 1);
                    return;
                }
            }
        }
    }

    private List<int[]> thePlan() {
        Laying laying = new Laying(state.preferred);
        laying.lay(0, state.size(), NONE, 5);
        return laying.laid;
    }

    private List<int[]> thePagedPlan(int[] kinds) {
        Laying laying = new Laying(state.preferred);
        laying.layPaged(0, state.size(), NONE, kinds);
        return laying.laid;
    }

    public int withPages(int what) {
        int[] kinds = new int[64];
        int blocks = thePagedPlan(kinds).size();
        int own = 0;
        for (int p = 0; p < state.size() / 16; p++) {
            own += kinds[p] != 5 ? 1 : 0;
        }
        return what == 0 ? blocks : what == 1 ? own : NONE;
    }

    public int pagedPlan(int i, int what) {
        return item(thePagedPlan(new int[64]), i, what);
    }

    public int pageFor(int page) {
        int[] kinds = new int[64];
        thePagedPlan(kinds);
        return page < 0 || page >= state.size() / 16 ? NONE : kinds[page];
    }

    public int wrong(int what) {
        int open = 0;
        int first = NONE;
        int clash = 0;
        int fixed = 0;
        for (int a = state.size() - 1; a >= 0; a--) {
            boolean right = state.kind(a) == state.wanted(a);
            clash += state.kind(a) == 5 ? 1 : 0;
            if (!right && a < state.fixed()) {
                fixed++;
            } else if (!right) {
                open++;
                first = a;
            }
        }
        int[] all = {open, first, clash, fixed};
        return what < 0 || what > 3 ? NONE : all[what];
    }

    public int cost(int what) {
        if (what == 0) {
            return new Laying(state.preferred).added(0, state.size());
        }
        return what == 1 ? thePlan().size() : NONE;
    }

    public int plan(int i, int what) {
        return item(thePlan(), i, what);
    }

    public int byDefault(int kind) {
        return isKind(kind) ? new Laying(kind).fewest(0, state.size(), NONE, 5) : NONE;
    }

    public int bestDefault() {
        int best = 0;
        for (int k = 1; k < 5; k++) {
            best = byDefault(k) < byDefault(best) ? k : best;
        }
        return best;
    }

    public int most(int r) {
        return r < 0 || r > 10 ? NONE : new Laying(state.preferred).most(0, state.size(), NONE, r);
    }

    public int bestSet(int r, int i, int what) {
        if (r < 0 || r > 10) {
            return NONE;
        }
        Laying laying = new Laying(state.preferred);
        laying.layMost(0, state.size(), NONE, r);
        return item(laying.laid, i, what);
    }

    private int rightBy(List<int[]> blocks) {
        int n = 0;
        for (int a = 0; a < state.size(); a++) {
            n += state.kindBy(a, blocks) == state.wanted(a) ? 1 : 0;
        }
        return n;
    }

    public int idle(int register) {
        if (register(register, 0) == NONE) {
            return NONE;
        }
        List<int[]> others = state.blocks();
        others.remove(state.regs[register]);
        for (int a = 0; a < state.size(); a++) {
            if (state.kindBy(a, others) != state.kind(a)) {
                return 0;
            }
        }
        return 1;
    }

    public int without(int register) {
        if (register(register, 0) == NONE) {
            return -2000;
        }
        List<int[]> others = state.blocks();
        others.remove(state.regs[register]);
        return rightBy(others) - rightBy(state.blocks());
    }

    public int besides(int size, int kind, int what) {
        if (!sizes().contains(size) || !isKind(kind) || what < 0 || what > 1) {
            return -2000;
        }
        int best = -2000;
        int at = -2000;
        int now = rightBy(state.blocks());
        for (int base = 0; base < state.size(); base += size) {
            boolean there = false;
            for (int[] r : state.blocks()) {
                there |= r[0] == base && r[1] == size;
            }
            List<int[]> more = state.blocks();
            more.add(new int[] {base, size, kind});
            int gain = there ? -2000 : rightBy(more) - now;
            if (gain > best) {
                best = gain;
                at = base;
            }
        }
        return what == 0 ? best : at;
    }

    private static boolean holds(List<int[]> blocks, int[] one) {
        for (int[] b : blocks) {
            if (Arrays.equals(b, one)) {
                return true;
            }
        }
        return false;
    }

    /** The STEPS done one by one on a copy of the registers. */
    private final class Changing {
        final List<int[]> plan = thePlan();
        final List<int[]> goes = new ArrayList<>();
        final List<int[]> comes = new ArrayList<>();
        final List<Integer> order = new ArrayList<>();
        final List<Integer> stirs = new ArrayList<>();
        final TreeSet<Integer> failed = new TreeSet<>();
        boolean safe = false;

        Changing() {
            for (int[] r : state.blocks()) {
                if (!holds(plan, r)) {
                    goes.add(r);
                }
            }
            for (int[] b : plan) {
                if (!holds(state.blocks(), b)) {
                    comes.add(b);
                }
            }
            if (possible()) {
                safe = search(0);
            }
            if (!safe) {
                order.clear();
            }
            int mask = 0;
            for (int step : order) {
                int n = 0;
                for (int a = state.fixed(); a < state.size(); a++) {
                    n += state.kindBy(a, behind(mask)) != state.kindBy(a, behind(mask | 1 << step)) ? 1 : 0;
                }
                stirs.add(n);
                mask |= 1 << step;
            }
        }

        int steps() {
            return goes.size() + comes.size();
        }

        boolean possible() {
            return plan.size() <= state.registers && steps() <= 12;
        }

        List<int[]> behind(int mask) {
            List<int[]> left = state.blocks();
            for (int i = 0; i < steps(); i++) {
                if ((mask >> i & 1) != 0) {
                    if (i < goes.size()) {
                        left.remove(goes.get(i));
                    } else {
                        left.add(comes.get(i - goes.size()));
                    }
                }
            }
            return left;
        }

        boolean fine(int mask) {
            List<int[]> left = behind(mask);
            if (left.size() > state.registers) {
                return false;
            }
            for (int a = state.fixed(); a < state.size(); a++) {
                int k = state.kindBy(a, left);
                if (k != 0 && k != state.kind(a) && k != state.kindBy(a, plan)) {
                    return false;
                }
            }
            return true;
        }

        boolean search(int mask) {
            if (Integer.bitCount(mask) == steps()) {
                return true;
            }
            if (failed.contains(mask)) {
                return false;
            }
            for (int i = 0; i < steps(); i++) {
                if ((mask >> i & 1) == 0 && fine(mask | 1 << i)) {
                    order.add(i);
                    if (search(mask | 1 << i)) {
                        return true;
                    }
                    order.remove(order.size() - 1);
                }
            }
            failed.add(mask);
            return false;
        }
    }

    public int change(int what) {
        Changing c = new Changing();
        switch (what) {
            case 0: return c.steps();
            case 1: return c.goes.size();
            case 2: return c.possible() ? c.safe ? 1 : 0 : NONE;
            default: return NONE;
        }
    }

    public int order(int i) {
        Changing c = new Changing();
        return i < 0 || i >= c.order.size() ? NONE : c.order.get(i);
    }

    public int stir(int i) {
        Changing c = new Changing();
        return i < 0 || i >= c.order.size() ? NONE : c.stirs.get(i);
    }

    public int block(int kind, int what) {
        for (int size = state.size(); size >= 1; size /= 2) {
            for (int base = 0; base < state.size(); base += size) {
                boolean all = true;
                for (int a = base; a < base + size; a++) {
                    all &= state.wanted(a) == kind;
                }
                if (all) {
                    return what == 0 ? size : what == 1 ? base : NONE;
                }
            }
        }
        return NONE;
    }

    public int bits(int kind) {
        if (kind < 0 || kind > 5) {
            return NONE;
        }
        int n = 0;
        for (int a = 0; a < state.size(); a++) {
            n += state.kind(a) == kind ? Integer.bitCount(a) : 0;
        }
        return n;
    }

    public int image(int box) {
        if (box < 0 || box > 1) {
            return NONE;
        }
        boxes[box] = state.copy();
        return state.spans.size();
    }

    public int differs(int box, int what) {
        if (box < 0 || box > 1 || boxes[box] == null) {
            return NONE;
        }
        int kinds = 0;
        int wishes = 0;
        int first = -2;
        for (int a = state.size() - 1; a >= 0; a--) {
            if (state.kind(a) != boxes[box].kind(a)) {
                kinds++;
                first = a;
            }
            wishes += state.wanted(a) != boxes[box].wanted(a) ? 1 : 0;
        }
        return what == 0 ? kinds : what == 1 ? wishes : what == 2 ? first : NONE;
    }

    public int back(int box) {
        if (box < 0 || box > 1 || boxes[box] == null) {
            return NONE;
        }
        state = boxes[box].copy();
        past.clear();
        future.clear();
        return state.spans.size();
    }

    public int about(int what) {
        int own = 0;
        for (int p = 0; p < state.size() / 16; p++) {
            own += state.pages[p] != 5 ? 1 : 0;
        }
        int[] all = {state.size(), state.registers, state.blocks().size(), state.preferred,
            state.spans.size(), state.fixed(), runs().size(), past.size(), future.size(), tape.length,
            state.size() / 16, own};
        return what < 0 || what >= all.length ? NONE : all[what];
    }
}
