/**
 * Kinds of storage over a span of addresses: what is wanted, what the registers make of it, and the
 * fewest registers that would do. The document's promises are told by their numbers.
 */
public final class SpanKinds {
    public static final int NONE = -1;

    private static final int KINDS = 5;
    private static final int CLASHES = 5;
    private static final int NO_OWN = 5;
    private static final int PAGE_KINDS = 6;
    private static final int PAGE = 16;
    private static final int PARTS = 8;
    private static final int REFUSED = -2000;
    private static final int NO_DIFFERENCE = -2;
    private static final int BOXES = 2;
    private static final int MOST_BYTES = 800;
    private static final int MOST_SPANS = 12;
    private static final int MOST_REGISTERS = 10;
    private static final int MOST_PAGES = 64;
    private static final int MOST_KEPT = 16;
    private static final int MOST_STEPS = 12;
    private static final int MOST_LAID = 10;

    /** What a block has from those above it: a KIND, or NOTHING. */
    private static final int NOTHING = 5;
    private static final int HAVES = 6;

    /** Halving 1,024 addresses comes to its end in ten steps; one more is never taken. */
    private static final int DEEPEST = 11;

    /**
     * Twelve spans and the fixed part cut SPACE in 25 places at most; so at most 156 aligned blocks
     * are cut, and with the 157 that these leave whole there are 313.
     */
    private static final int MOST_NODES = 320;
    private static final int MOST_BLOCKS = 160;

    /** Both ends, 63 pages, 12 spans, 10 registers and 8 parts: 117; two stores together have fewer. */
    private static final int MOST_EDGES = 128;

    /**
     * What a block that has so much (a row: KINDS 0 to 4, NOTHING) has with a KIND laid over it; -1
     * where the two do not go together, or make no other thing. A lesser number each time, so that
     * tables filled from 0 on find what they need.
     */
    private static final int[] LAID = {
        -1, -1, -1, -1, -1,
        0, -1, -1, -1, -1,
        0, -1, -1, -1, -1,
        0, -1, -1, -1, -1,
        0, -1, 2, -1, -1,
        0, 1, 2, 3, 4};

    /** SEEN, by a PAGE's KIND (a row; the last: none of its own) and an ADDRESS's (5: it CLASHES). */
    private static final int[] SEEN = {
        0, 0, 0, 0, 0, 5,
        0, 1, 1, 1, 1, 5,
        0, 1, 2, 0, 2, 5,
        0, 1, 0, 3, 3, 5,
        0, 1, 2, 3, 4, 5,
        0, 1, 2, 3, 4, 5};

    private final Reader reader;
    private final Store now;
    private final History history;
    private final Store[] boxes;
    private final boolean[] kept;
    private final Edges both;
    private final Pieces pieces;
    private final Planner planner;
    private final Blocks planned;
    private final Blocks plannedWithPages;
    private final int[] pagesFor;
    private final Blocks bestOnes;
    private final Change changing;
    private Filler filler;

    private boolean piecesStand;
    private boolean planStands;
    private boolean pagedStands;
    private boolean fillerStands;
    private boolean changeStands;

    // Promise 1
    public SpanKinds() {
        reader = new Reader();
        now = new Store();
        history = new History();
        history.begin(now);
        boxes = new Store[BOXES];
        for (int i = 0; i < BOXES; i++) {
            boxes[i] = new Store();
        }
        kept = new boolean[BOXES];
        both = new Edges(MOST_EDGES);
        pieces = new Pieces();
        planner = new Planner();
        planned = new Blocks(MOST_BLOCKS);
        plannedWithPages = new Blocks(MOST_BLOCKS);
        pagesFor = new int[MOST_PAGES];
        bestOnes = new Blocks(MOST_LAID);
        changing = new Change();
    }

    // Promise 2
    public int feed(int a, int b, int c, int d, int e) {
        if (reader.length + 20 > MOST_BYTES) {
            return NONE;
        }
        reader.append(a);
        reader.append(b);
        reader.append(c);
        reader.append(d);
        reader.append(e);
        return reader.length;
    }

    // Promise 3
    public int end(int n) {
        if (n < 0 || n > reader.length) {
            return NONE;
        }
        reader.length = n;
        return n;
    }

    // Promise 4
    public int store() {
        if (!reader.readAll()) {
            return NONE;
        }
        now.copyFrom(reader.read);
        for (int i = 0; i < BOXES; i++) {
            kept[i] = false;
        }
        startAnew();
        return now.spans;
    }

    // Promise 5
    public int fault(int what) {
        switch (what) {
            case 0: return reader.fault;
            case 1: return reader.place;
            default: return NONE;
        }
    }

    // Promise 6
    public int span(int from, int to, int kind) {
        boolean within = from >= 0 && from <= to && to < now.addresses;
        if (!within || !isKind(kind) || now.spans >= MOST_SPANS) {
            return NONE;
        }
        now.addSpan(from, to, kind);
        wantedDone();
        return now.spans - 1;
    }

    // Promise 7
    public int drop(int span) {
        if (span < 0 || span >= now.spans) {
            return NONE;
        }
        now.dropSpan(span);
        wantedDone();
        return now.spans;
    }

    // Promise 8
    public int prefer(int kind) {
        if (!isKind(kind)) {
            return NONE;
        }
        int was = now.preferred;
        now.preferred = kind;
        wantedDone();
        return was;
    }

    // Promise 9
    public int fix(int part, int kind) {
        if (!now.hasPart(part) || !isKind(kind)) {
            return NONE;
        }
        int was = now.partKind[part];
        now.partKind[part] = kind;
        kindsDone();
        return was;
    }

    // Promise 10
    public boolean set(int register, int base, int size, int kind) {
        if (!now.hasRegister(register) || !now.fits(base, size) || !isKind(kind)) {
            return false;
        }
        int holder = now.holderOf(base, size);
        if (holder != NONE && holder != register) {
            return false;
        }
        now.put(register, base, size, kind);
        kindsDone();
        return true;
    }

    // Promise 11
    public boolean clear(int register) {
        if (!now.isSet(register)) {
            return false;
        }
        now.put(register, 0, 0, 0);
        kindsDone();
        return true;
    }

    // Promise 12
    public int lay() {
        Blocks blocks = planNow();
        if (blocks.count > now.registers) {
            return NONE;
        }
        now.putAll(blocks);
        kindsDone();
        return blocks.count;
    }

    // Promise 13
    public int page(int page, int kind) {
        if (!now.hasPage(page) || kind < 0 || kind > NO_OWN) {
            return NONE;
        }
        int was = now.pageKind[page];
        now.pageKind[page] = kind;
        kindsDone();
        return was;
    }

    // Promise 14
    public int mend() {
        Pieces all = piecesNow();
        int others = 0;
        for (int i = 0; i < now.pages(); i++) {
            int kind = all.mendingKind(i);
            if (kind != NONE && kind != now.pageKind[i]) {
                now.pageKind[i] = kind;
                others++;
            }
        }
        kindsDone();
        return others;
    }

    // Promise 15
    public int layAll() {
        Blocks blocks = pagedNow();
        if (blocks.count > now.registers) {
            return NONE;
        }
        now.putAll(blocks);
        for (int i = 0; i < now.pages(); i++) {
            now.pageKind[i] = pagesFor[i];
        }
        kindsDone();
        return blocks.count;
    }

    // Promise 16
    public int tidy() {
        Pieces all = piecesNow();
        int others = 0;
        for (int i = 0; i < all.runs; i++) {
            others += all.runKind[i] != now.preferred ? 1 : 0;
        }
        if (others > MOST_SPANS) {
            return NONE;
        }
        now.spans = 0;
        for (int i = 0; i < all.runs; i++) {
            if (all.runKind[i] != now.preferred) {
                now.addSpan(all.runStart[i], all.runStart[i + 1] - 1, all.runKind[i]);
            }
        }
        wantedDone();
        return now.spans;
    }

    // Promise 17
    public boolean undo() {
        if (!history.goBack(now)) {
            return false;
        }
        forgetAll();
        return true;
    }

    // Promise 18
    public boolean redo() {
        if (!history.goOn(now)) {
            return false;
        }
        forgetAll();
        return true;
    }

    // Promise 19
    public int told(int span, int what) {
        if (span < 0 || span >= now.spans) {
            return NONE;
        }
        return pick(what, now.from[span], now.to[span], now.spanKind[span]);
    }

    // Promise 20
    public int register(int register, int what) {
        if (!now.isSet(register)) {
            return NONE;
        }
        return pick(what, now.base[register], now.size[register], now.blockKind[register]);
    }

    // Promise 21
    public int part(int part) {
        return now.hasPart(part) ? now.partKind[part] : NONE;
    }

    // Promise 22
    public int wanted(int address) {
        return now.hasAddress(address) ? now.wantedAt(address, now.preferred) : NONE;
    }

    // Promise 23
    public int kind(int address) {
        return now.hasAddress(address) ? now.kindAt(address, NONE) : NONE;
    }

    // Promise 24
    public int run(int i, int what) {
        Pieces all = piecesNow();
        if (i == NONE) {
            return all.runs;
        }
        if (i < 0 || i >= all.runs) {
            return NONE;
        }
        return pick(what, all.runStart[i], all.runStart[i + 1] - 1, all.runKind[i]);
    }

    // Promise 25
    public int paged(int page) {
        return now.hasPage(page) ? now.pageKind[page] : NONE;
    }

    // Promise 26
    public int seen(int address) {
        return now.hasAddress(address) ? now.seenAs(address, now.kindAt(address, NONE)) : NONE;
    }

    // Promise 27
    public int strange(int what) {
        Pieces all = piecesNow();
        int strangers = 0;
        int first = NONE;
        for (int i = 0; i < all.count; i++) {
            if (now.seenAs(all.startOf(i), all.kind[i]) != all.wanted[i]) {
                first = strangers == 0 ? all.startOf(i) : first;
                strangers += all.lengthOf(i);
            }
        }
        switch (what) {
            case 0: return strangers;
            case 1: return first;
            default: return NONE;
        }
    }

    // Promise 28
    public int mendable(int page) {
        return now.hasPage(page) ? piecesNow().mendingKind(page) : NONE;
    }

    // Promise 29
    public int withPages(int what) {
        Blocks blocks = pagedNow();
        switch (what) {
            case 0: return blocks.count;
            case 1: return owned(pagesFor, now.pages());
            default: return NONE;
        }
    }

    // Promise 30
    public int pagedPlan(int i, int what) {
        return pagedNow().tell(i, what);
    }

    // Promise 31
    public int pageFor(int page) {
        if (!now.hasPage(page)) {
            return NONE;
        }
        pagedNow();
        return pagesFor[page];
    }

    // Promise 32
    public int wrong(int what) {
        Pieces all = piecesNow();
        switch (what) {
            case 0: return all.wrongOnes(now.fixed, now.addresses);
            case 1: return all.firstWrong(now.fixed);
            case 2: return all.clashing();
            case 3: return all.wrongOnes(0, now.fixed);
            default: return NONE;
        }
    }

    // Promise 33
    public int cost(int what) {
        switch (what) {
            case 0: return planner.fewestAdded(now);
            case 1: return planNow().count;
            default: return NONE;
        }
    }

    // Promise 34
    public int plan(int i, int what) {
        return planNow().tell(i, what);
    }

    // Promise 35
    public int byDefault(int kind) {
        return isKind(kind) ? planner.fewestOver(now, kind) : NONE;
    }

    // Promise 36
    public int bestDefault() {
        int best = 0;
        int fewest = planner.fewestOver(now, 0);
        for (int kind = 1; kind < KINDS; kind++) {
            int few = planner.fewestOver(now, kind);
            if (few < fewest) {
                best = kind;
                fewest = few;
            }
        }
        return best;
    }

    // Promise 37
    public int most(int r) {
        return r < 0 || r > MOST_LAID ? NONE : fillerNow().mostRight(r);
    }

    // Promise 38
    public int bestSet(int r, int i, int what) {
        if (r < 0 || r > MOST_LAID) {
            return NONE;
        }
        fillerNow().layBest(r, bestOnes);
        return bestOnes.tell(i, what);
    }

    // Promise 39
    public int idle(int register) {
        return now.isSet(register) ? piecesNow().idleWithout(now, register) : NONE;
    }

    // Promise 40
    public int without(int register) {
        return now.isSet(register) ? piecesNow().gainWithout(now, register) : REFUSED;
    }

    // Promise 41
    public int besides(int size, int kind, int what) {
        if (!now.fits(0, size) || !isKind(kind) || what < 0 || what > 1) {
            return REFUSED;
        }
        Pieces all = piecesNow();
        all.weighBesides(now, kind);
        int most = REFUSED;
        int best = REFUSED;
        int piece = 0;
        for (int base = 0; base < now.addresses; base += size) {
            piece = all.pieceFrom(piece, base);
            int gain = all.gainWithin(piece, base, base + size);
            if (gain > most && now.holderOf(base, size) == NONE) {
                most = gain;
                best = base;
            }
        }
        return what == 0 ? most : best;
    }

    // Promise 42
    public int change(int what) {
        Change steps = changeNow();
        switch (what) {
            case 0: return steps.goes + steps.comes;
            case 1: return steps.goes;
            case 2: return !steps.workable ? NONE : steps.safe ? 1 : 0;
            default: return NONE;
        }
    }

    // Promise 43
    public int order(int i) {
        Change steps = changeNow();
        return steps.hasStep(i) ? steps.inOrder[i] : NONE;
    }

    // Promise 44
    public int stir(int i) {
        Change steps = changeNow();
        return steps.hasStep(i) ? steps.stirredBy(i) : NONE;
    }

    // Promise 45
    public int block(int kind, int what) {
        Pieces all = piecesNow();
        for (int size = now.addresses; size >= 1; size /= 2) {
            int base = all.firstBlock(kind, size);
            if (base != NONE) {
                return pick(what, size, base, NONE);
            }
        }
        return NONE;
    }

    // Promise 46
    public int bits(int kind) {
        if (kind < 0 || kind > CLASHES) {
            return NONE;
        }
        Pieces all = piecesNow();
        int ones = 0;
        for (int i = 0; i < all.count; i++) {
            if (all.kind[i] == kind) {
                ones += onesBelow(all.startOf(i + 1)) - onesBelow(all.startOf(i));
            }
        }
        return ones;
    }

    // Promise 47
    public int image(int box) {
        if (box < 0 || box >= BOXES) {
            return NONE;
        }
        boxes[box].copyFrom(now);
        kept[box] = true;
        return now.spans;
    }

    // Promise 48
    public int differs(int box, int what) {
        if (!hasKept(box)) {
            return NONE;
        }
        switch (what) {
            case 0: return otherKinds(boxes[box], false);
            case 1: return otherWanted(boxes[box]);
            case 2: return otherKinds(boxes[box], true);
            default: return NONE;
        }
    }

    // Promise 49
    public int back(int box) {
        if (!hasKept(box)) {
            return NONE;
        }
        now.copyFrom(boxes[box]);
        startAnew();
        return now.spans;
    }

    // Promise 50
    public int about(int what) {
        switch (what) {
            case 0: return now.addresses;
            case 1: return now.registers;
            case 2: return now.countSet();
            case 3: return now.preferred;
            case 4: return now.spans;
            case 5: return now.fixed;
            case 6: return piecesNow().runs;
            case 7: return history.behind;
            case 8: return history.ahead;
            case 9: return reader.length;
            case 10: return now.pages();
            case 11: return owned(now.pageKind, now.pages());
            default: return NONE;
        }
    }

    private void startAnew() {
        history.begin(now);
        forgetAll();
    }

    /** An ACT by which other KINDS may be WANTED. */
    private void wantedDone() {
        history.note(now);
        forgetAll();
    }

    /** An ACT that leaves WANTED, and so all plans, as they are. */
    private void kindsDone() {
        history.note(now);
        forgetKinds();
    }

    private void forgetAll() {
        planStands = false;
        pagedStands = false;
        fillerStands = false;
        forgetKinds();
    }

    private void forgetKinds() {
        piecesStand = false;
        changeStands = false;
    }

    private Pieces piecesNow() {
        if (!piecesStand) {
            pieces.make(now);
            piecesStand = true;
        }
        return pieces;
    }

    private Blocks planNow() {
        if (!planStands) {
            planner.layPlan(now, planned);
            planStands = true;
        }
        return planned;
    }

    private Blocks pagedNow() {
        if (!pagedStands) {
            planner.layPagedPlan(now, plannedWithPages, pagesFor);
            pagedStands = true;
        }
        return plannedWithPages;
    }

    /** Its table is the greatest of all: it is made for those who ask for it alone. */
    private Filler fillerNow() {
        if (filler == null) {
            filler = new Filler();
        }
        if (!fillerStands) {
            filler.make(now);
            fillerStands = true;
        }
        return filler;
    }

    private Change changeNow() {
        if (!changeStands) {
            changing.make(now, planNow());
            changeStands = true;
        }
        return changing;
    }

    private boolean hasKept(int box) {
        return box >= 0 && box < BOXES && kept[box];
    }

    private void cutBoth(Store other) {
        both.begin(now.addresses);
        both.cutSpans(now);
        both.cutSpans(other);
        both.cutRegisters(now);
        both.cutRegisters(other);
        both.cutParts(now);
    }

    private int otherKinds(Store other, boolean first) {
        cutBoth(other);
        int others = 0;
        for (int i = 0; i + 1 < both.count; i++) {
            int address = both.at[i];
            if (now.kindAt(address, NONE) != other.kindAt(address, NONE)) {
                if (first) {
                    return address;
                }
                others += both.at[i + 1] - address;
            }
        }
        return first ? NO_DIFFERENCE : others;
    }

    private int otherWanted(Store other) {
        cutBoth(other);
        int others = 0;
        for (int i = 0; i + 1 < both.count; i++) {
            int address = both.at[i];
            if (now.wantedAt(address, now.preferred) != other.wantedAt(address, other.preferred)) {
                others += both.at[i + 1] - address;
            }
        }
        return others;
    }

    private static boolean isKind(int kind) {
        return kind >= 0 && kind < KINDS;
    }

    private static int pick(int what, int first, int second, int third) {
        switch (what) {
            case 0: return first;
            case 1: return second;
            case 2: return third;
            default: return NONE;
        }
    }

    private static int owned(int[] pageKinds, int pages) {
        int own = 0;
        for (int i = 0; i < pages && i < pageKinds.length; i++) {
            own += pageKinds[i] != NO_OWN ? 1 : 0;
        }
        return own;
    }

    /** The ones in all numbers from 0 to below n, place by place: in each they come by turns. */
    private static int onesBelow(int n) {
        int ones = 0;
        for (int half = 1; half < n; half *= 2) {
            int turn = 2 * half;
            ones += n / turn * half + Math.max(0, n % turn - half);
        }
        return ones;
    }

    /** What KINDS (a bit each) of REGISTERS make TOGETHER. */
    private static int together(int kinds, int preferred) {
        if (kinds == 0) {
            return preferred;
        }
        if ((kinds & 1) != 0) {
            return 0;
        }
        if (Integer.bitCount(kinds) == 1) {
            return Integer.numberOfTrailingZeros(kinds);
        }
        return kinds == (1 << 2 | 1 << 4) ? 2 : CLASHES;
    }

    /** 5, 0, 1, 2, 3, 4: the order in which a PAGE's KINDS are tried. */
    private static int pageKindInTurn(int turn) {
        return turn == 0 ? NO_OWN : turn - 1;
    }

    /** All that can be told, taken back and kept in a box. */
    private static final class Store {
        int addresses;
        int registers;
        int preferred;
        int spans;
        int fixed;
        final int[] from = new int[MOST_SPANS];
        final int[] to = new int[MOST_SPANS];
        final int[] spanKind = new int[MOST_SPANS];
        final int[] partKind = new int[PARTS];
        final int[] base = new int[MOST_REGISTERS];
        final int[] size = new int[MOST_REGISTERS];
        final int[] blockKind = new int[MOST_REGISTERS];
        final int[] pageKind = new int[MOST_PAGES];

        Store() {
            wipe();
        }

        void wipe() {
            addresses = 256;
            registers = 8;
            preferred = 0;
            spans = 0;
            fixed = 0;
            for (int i = 0; i < MOST_REGISTERS; i++) {
                put(i, 0, 0, 0);
            }
            for (int i = 0; i < MOST_PAGES; i++) {
                pageKind[i] = NO_OWN;
            }
        }

        void copyFrom(Store other) {
            addresses = other.addresses;
            registers = other.registers;
            preferred = other.preferred;
            spans = other.spans;
            fixed = other.fixed;
            System.arraycopy(other.from, 0, from, 0, MOST_SPANS);
            System.arraycopy(other.to, 0, to, 0, MOST_SPANS);
            System.arraycopy(other.spanKind, 0, spanKind, 0, MOST_SPANS);
            System.arraycopy(other.partKind, 0, partKind, 0, PARTS);
            System.arraycopy(other.base, 0, base, 0, MOST_REGISTERS);
            System.arraycopy(other.size, 0, size, 0, MOST_REGISTERS);
            System.arraycopy(other.blockKind, 0, blockKind, 0, MOST_REGISTERS);
            System.arraycopy(other.pageKind, 0, pageKind, 0, MOST_PAGES);
        }

        int pages() {
            return addresses / PAGE;
        }

        boolean hasAddress(int address) {
            return address >= 0 && address < addresses;
        }

        boolean hasPart(int part) {
            return fixed > 0 && part >= 0 && part < PARTS;
        }

        boolean hasPage(int page) {
            return page >= 0 && page < pages();
        }

        boolean hasRegister(int register) {
            return register >= 0 && register < registers;
        }

        boolean isSet(int register) {
            return hasRegister(register) && size[register] > 0;
        }

        int countSet() {
            int count = 0;
            for (int i = 0; i < registers; i++) {
                count += size[i] > 0 ? 1 : 0;
            }
            return count;
        }

        boolean fits(int blockBase, int blockSize) {
            boolean power = blockSize > 0 && blockSize <= addresses && (blockSize & blockSize - 1) == 0;
            return power && hasAddress(blockBase) && (blockBase & blockSize - 1) == 0;
        }

        int holderOf(int blockBase, int blockSize) {
            for (int i = 0; i < registers; i++) {
                if (size[i] == blockSize && base[i] == blockBase) {
                    return i;
                }
            }
            return NONE;
        }

        /** A size of 0 is an EMPTY one: such a block has no address. */
        void put(int register, int blockBase, int blockSize, int kindOfIt) {
            base[register] = blockBase;
            size[register] = blockSize;
            blockKind[register] = kindOfIt;
        }

        void putAll(Blocks blocks) {
            for (int i = 0; i < registers; i++) {
                if (i < blocks.count) {
                    put(i, blocks.base[i], blocks.size[i], blocks.kind[i]);
                } else {
                    put(i, 0, 0, 0);
                }
            }
        }

        void addSpan(int first, int last, int kindOfIt) {
            if (spans < MOST_SPANS) {
                from[spans] = first;
                to[spans] = last;
                spanKind[spans] = kindOfIt;
                spans++;
            }
        }

        void dropSpan(int span) {
            for (int i = span; i + 1 < spans; i++) {
                from[i] = from[i + 1];
                to[i] = to[i + 1];
                spanKind[i] = spanKind[i + 1];
            }
            spans--;
        }

        int wantedAt(int address, int otherwise) {
            for (int i = spans - 1; i >= 0; i--) {
                if (from[i] <= address && address <= to[i]) {
                    return spanKind[i];
                }
            }
            return otherwise;
        }

        /** The KINDS, a bit each, of all REGISTERS but one (NONE: of all) over an ADDRESS. */
        int kindsOver(int address, int leftOut) {
            int kinds = 0;
            for (int i = 0; i < registers; i++) {
                if (i != leftOut && base[i] <= address && address < base[i] + size[i]) {
                    kinds |= 1 << blockKind[i];
                }
            }
            return kinds;
        }

        int kindAt(int address, int leftOut) {
            if (address < fixed) {
                return partKind[address * PARTS / fixed];
            }
            return together(kindsOver(address, leftOut), preferred);
        }

        int seenAs(int address, int kindOfIt) {
            return SEEN[pageKind[address / PAGE] * PAGE_KINDS + kindOfIt];
        }
    }

    /** The stores behind each of the latest ACTS, and ahead of the oldest of them, in a ring. */
    private static final class History {
        final Store[] ring = new Store[MOST_KEPT + 1];
        int oldest;
        int behind;
        int ahead;

        History() {
            for (int i = 0; i <= MOST_KEPT; i++) {
                ring[i] = new Store();
            }
        }

        void begin(Store first) {
            behind = 0;
            ahead = 0;
            current().copyFrom(first);
        }

        void note(Store latest) {
            ahead = 0;
            if (behind < MOST_KEPT) {
                behind++;
            } else {
                oldest = (oldest + 1) % (MOST_KEPT + 1);
            }
            current().copyFrom(latest);
        }

        boolean goBack(Store target) {
            if (behind == 0) {
                return false;
            }
            behind--;
            ahead++;
            target.copyFrom(current());
            return true;
        }

        boolean goOn(Store target) {
            if (ahead == 0) {
                return false;
            }
            behind++;
            ahead--;
            target.copyFrom(current());
            return true;
        }

        Store current() {
            return ring[(oldest + behind) % (MOST_KEPT + 1)];
        }
    }

    /** The TAPE, and how it is read, token by token, up to its first FAULT. */
    private static final class Reader {
        private static final int WORD = 0;
        private static final int NUMBER = 1;
        private static final int STOP = 2;
        private static final int STRANGER = 3;
        private static final int FINISH = 4;
        private static final int CANNOT_STAND = 1;
        private static final int CANNOT_BE = 2;
        private static final int NOT_HERE = 3;
        private static final int MISCOUNTED = 4;
        /** Above all numbers that can be, and ten times it is no overflow. */
        private static final int TOO_GREAT = 1000000;

        final int[] tape = new int[MOST_BYTES];
        int length;
        int fault;
        int place = NONE;
        final Store read = new Store();
        private int at;
        private int start;
        private int type;
        private int number;
        private boolean spaceTold;
        private boolean registersTold;
        private boolean defaultTold;
        private boolean fixedTold;
        private boolean headEnded;

        void append(int four) {
            for (int shift = 24; shift >= 0; shift -= 8) {
                if (length < MOST_BYTES) {
                    tape[length] = four >>> shift & 255;
                    length++;
                }
            }
        }

        /** Whether there was no FAULT; the TAPE is empty then, in either case. */
        boolean readAll() {
            begin();
            boolean good = true;
            boolean more = true;
            for (int line = 0; good && more && line <= MOST_BYTES; line++) {
                next();
                more = type != FINISH;
                good = !more || readLine();
            }
            length = 0;
            return good;
        }

        private void begin() {
            read.wipe();
            fault = 0;
            place = NONE;
            at = 0;
            spaceTold = false;
            registersTold = false;
            defaultTold = false;
            fixedTold = false;
            headEnded = false;
        }

        private boolean readLine() {
            if (isWord("space")) {
                return readSpace();
            }
            if (isWord("registers")) {
                return readRegisters();
            }
            if (isWord("default")) {
                return readDefault();
            }
            headEnded = true;
            if (isWord("fixed")) {
                return readFixed();
            }
            if (isWord("span")) {
                return readSpan();
            }
            if (isWord("reg")) {
                return readRegister();
            }
            return isWord("page") ? readPage() : failed(CANNOT_STAND);
        }

        private boolean readSpace() {
            if (spaceTold || headEnded) {
                return failed(NOT_HERE);
            }
            spaceTold = true;
            if (!readNumber(4, 10)) {
                return false;
            }
            read.addresses = 1 << number;
            return readStop();
        }

        private boolean readRegisters() {
            if (registersTold || headEnded) {
                return failed(NOT_HERE);
            }
            registersTold = true;
            if (!readNumber(1, MOST_REGISTERS)) {
                return false;
            }
            read.registers = number;
            return readStop();
        }

        private boolean readDefault() {
            if (defaultTold || headEnded) {
                return failed(NOT_HERE);
            }
            defaultTold = true;
            next();
            read.preferred = kindHere();
            return read.preferred == NONE ? failed(CANNOT_STAND) : readStop();
        }

        private boolean readFixed() {
            if (fixedTold) {
                return failed(NOT_HERE);
            }
            fixedTold = true;
            if (!readNumber(3, Integer.numberOfTrailingZeros(read.addresses))) {
                return false;
            }
            read.fixed = 1 << number;
            for (int i = 0; i <= PARTS; i++) {
                next();
                int kindOfPart = kindHere();
                if (kindOfPart == NONE) {
                    return fixedStops(i);
                }
                if (i == PARTS) {
                    return failed(MISCOUNTED);
                }
                read.partKind[i] = kindOfPart;
            }
            return false;
        }

        /** One KIND must stand there by the form of the line: without any the ; is a lesser FAULT. */
        private boolean fixedStops(int parts) {
            if (type != STOP || parts == 0) {
                return failed(CANNOT_STAND);
            }
            return parts == PARTS || failed(MISCOUNTED);
        }

        private boolean readSpan() {
            if (read.spans >= MOST_SPANS) {
                return failed(MISCOUNTED);
            }
            if (!readNumber(0, read.addresses - 1)) {
                return false;
            }
            int first = number;
            if (!readNumber(first, read.addresses - 1)) {
                return false;
            }
            int last = number;
            next();
            int kindOfSpan = kindHere();
            if (kindOfSpan == NONE) {
                return failed(CANNOT_STAND);
            }
            read.addSpan(first, last, kindOfSpan);
            return readStop();
        }

        private boolean readRegister() {
            int register = read.countSet();
            if (register >= read.registers) {
                return failed(MISCOUNTED);
            }
            if (!readNumber(0, read.addresses - 1)) {
                return false;
            }
            int blockBase = number;
            if (!readNumber(1, read.addresses)) {
                return false;
            }
            int blockSize = number;
            if (!read.fits(blockBase, blockSize)) {
                return failed(CANNOT_BE);
            }
            if (read.holderOf(blockBase, blockSize) != NONE) {
                return failed(NOT_HERE);
            }
            next();
            int kindOfBlock = kindHere();
            if (kindOfBlock == NONE) {
                return failed(CANNOT_STAND);
            }
            read.put(register, blockBase, blockSize, kindOfBlock);
            return readStop();
        }

        private boolean readPage() {
            if (!readNumber(0, read.pages() - 1)) {
                return false;
            }
            int index = number;
            if (read.pageKind[index] != NO_OWN) {
                return failed(NOT_HERE);
            }
            next();
            int kindOfPage = kindHere();
            if (kindOfPage == NONE) {
                return failed(CANNOT_STAND);
            }
            read.pageKind[index] = kindOfPage;
            return readStop();
        }

        private boolean readNumber(int least, int greatest) {
            next();
            if (type != NUMBER) {
                return failed(CANNOT_STAND);
            }
            return number >= least && number <= greatest || failed(CANNOT_BE);
        }

        private boolean readStop() {
            next();
            return type == STOP || failed(CANNOT_STAND);
        }

        private int kindHere() {
            if (isWord("none")) {
                return 0;
            }
            if (isWord("comb")) {
                return 1;
            }
            if (isWord("thru")) {
                return 2;
            }
            if (isWord("prot")) {
                return 3;
            }
            return isWord("back") ? 4 : NONE;
        }

        private boolean failed(int what) {
            fault = what;
            place = start;
            return false;
        }

        private void next() {
            while (at < length && (tape[at] == ' ' || tape[at] == 10)) {
                at++;
            }
            start = at;
            number = 0;
            if (at >= length) {
                type = FINISH;
            } else if (isLetter(tape[at])) {
                type = WORD;
                while (at < length && isLetter(tape[at])) {
                    at++;
                }
            } else if (isDigit(tape[at])) {
                type = NUMBER;
                while (at < length && isDigit(tape[at])) {
                    number = Math.min(TOO_GREAT, number * 10 + tape[at] - '0');
                    at++;
                }
            } else {
                type = tape[at] == ';' ? STOP : STRANGER;
                at++;
            }
        }

        private boolean isWord(String word) {
            if (type != WORD || word.length() != at - start) {
                return false;
            }
            for (int i = 0; i < word.length(); i++) {
                if (tape[start + i] != word.charAt(i)) {
                    return false;
                }
            }
            return true;
        }

        private static boolean isLetter(int sign) {
            return sign >= 'a' && sign <= 'z';
        }

        private static boolean isDigit(int sign) {
            return sign >= '0' && sign <= '9';
        }
    }

    /** Addresses at which something may change, sorted, each once, the ends of SPACE among them. */
    private static final class Edges {
        final int[] at;
        int count;

        Edges(int most) {
            at = new int[most];
        }

        void begin(int end) {
            at[0] = 0;
            at[1] = end;
            count = 2;
        }

        void cut(int address) {
            if (count >= at.length || address <= 0 || address >= at[count - 1]) {
                return;
            }
            int i = count - 1;
            while (i > 0 && at[i - 1] >= address) {
                i--;
            }
            if (at[i] == address) {
                return;
            }
            for (int j = count; j > i; j--) {
                at[j] = at[j - 1];
            }
            at[i] = address;
            count++;
        }

        void cutSpans(Store store) {
            for (int i = 0; i < store.spans; i++) {
                cut(store.from[i]);
                cut(store.to[i] + 1);
            }
        }

        void cutRegisters(Store store) {
            for (int i = 0; i < store.registers; i++) {
                cut(store.base[i]);
                cut(store.base[i] + store.size[i]);
            }
        }

        void cutParts(Store store) {
            for (int i = 1; i <= PARTS; i++) {
                cut(store.fixed / PARTS * i);
            }
        }

        void cutPages(Store store) {
            for (int i = 1; i < store.pages(); i++) {
                cut(i * PAGE);
            }
        }
    }

    /** SPACE in pieces of addresses that are alike in all but their number; and its RUNS. */
    private static final class Pieces {
        final Edges edges = new Edges(MOST_EDGES);
        final int[] wanted = new int[MOST_EDGES];
        final int[] kind = new int[MOST_EDGES];
        final int[] gain = new int[MOST_EDGES];
        final int[] runStart = new int[2 * MOST_SPANS + 2];
        final int[] runKind = new int[2 * MOST_SPANS + 2];
        int count;
        int runs;
        int fixed;

        void make(Store store) {
            // the pages first: in order they come in without a shift
            edges.begin(store.addresses);
            edges.cutPages(store);
            edges.cutParts(store);
            edges.cutSpans(store);
            edges.cutRegisters(store);
            fixed = store.fixed;
            count = edges.count - 1;
            for (int i = 0; i < count; i++) {
                wanted[i] = store.wantedAt(edges.at[i], store.preferred);
                kind[i] = store.kindAt(edges.at[i], NONE);
            }
            joinRuns();
        }

        private void joinRuns() {
            runs = 0;
            for (int i = 0; i < count; i++) {
                boolean other = i == 0 || wanted[i] != wanted[i - 1];
                if (other && runs < runKind.length - 1) {
                    runStart[runs] = edges.at[i];
                    runKind[runs] = wanted[i];
                    runs++;
                }
            }
            runStart[runs] = edges.at[count];
        }

        int startOf(int i) {
            return edges.at[i];
        }

        int lengthOf(int i) {
            return edges.at[i + 1] - edges.at[i];
        }

        /** The piece that has an address, looked for from one on that is not behind it. */
        int pieceFrom(int first, int address) {
            int i = first;
            while (i + 1 < count && edges.at[i + 1] <= address) {
                i++;
            }
            return i;
        }

        int wrongOnes(int low, int high) {
            int ones = 0;
            for (int i = 0; i < count; i++) {
                if (edges.at[i] >= low && edges.at[i] < high && kind[i] != wanted[i]) {
                    ones += lengthOf(i);
                }
            }
            return ones;
        }

        int firstWrong(int low) {
            for (int i = 0; i < count; i++) {
                if (edges.at[i] >= low && kind[i] != wanted[i]) {
                    return edges.at[i];
                }
            }
            return NONE;
        }

        int clashing() {
            int ones = 0;
            for (int i = 0; i < count; i++) {
                ones += kind[i] == CLASHES ? lengthOf(i) : 0;
            }
            return ones;
        }

        int mendingKind(int page) {
            int first = pieceFrom(0, page * PAGE);
            for (int turn = 0; turn < PAGE_KINDS; turn++) {
                if (mends(first, page * PAGE + PAGE, pageKindInTurn(turn))) {
                    return pageKindInTurn(turn);
                }
            }
            return NONE;
        }

        private boolean mends(int first, int end, int pageKind) {
            for (int i = first; i < count && edges.at[i] < end; i++) {
                if (edges.at[i] >= fixed && SEEN[pageKind * PAGE_KINDS + kind[i]] != wanted[i]) {
                    return false;
                }
            }
            return true;
        }

        int idleWithout(Store store, int register) {
            int end = store.base[register] + store.size[register];
            for (int i = pieceFrom(0, store.base[register]); i < count && edges.at[i] < end; i++) {
                if (store.kindAt(edges.at[i], register) != kind[i]) {
                    return 0;
                }
            }
            return 1;
        }

        int gainWithout(Store store, int register) {
            int end = store.base[register] + store.size[register];
            int all = 0;
            for (int i = pieceFrom(0, store.base[register]); i < count && edges.at[i] < end; i++) {
                all += gained(i, store.kindAt(edges.at[i], register)) * lengthOf(i);
            }
            return all;
        }

        private int gained(int i, int otherKind) {
            return (otherKind == wanted[i] ? 1 : 0) - (kind[i] == wanted[i] ? 1 : 0);
        }

        /** What each address of a piece gains by one more block with a KIND over it. */
        void weighBesides(Store store, int more) {
            for (int i = 0; i < count; i++) {
                int kinds = store.kindsOver(edges.at[i], NONE) | 1 << more;
                gain[i] = edges.at[i] < fixed ? 0 : gained(i, together(kinds, store.preferred));
            }
        }

        int gainWithin(int first, int low, int high) {
            int all = 0;
            for (int i = first; i < count && edges.at[i] < high; i++) {
                all += gain[i] * (Math.min(high, edges.at[i + 1]) - Math.max(low, edges.at[i]));
            }
            return all;
        }

        int firstBlock(int kindOfIt, int size) {
            for (int i = 0; i < runs; i++) {
                int base = (runStart[i] + size - 1) / size * size;
                if (runKind[i] == kindOfIt && base + size <= runStart[i + 1]) {
                    return base;
                }
            }
            return NONE;
        }
    }

    /** Blocks with their KINDS, in the order in which they are laid. */
    private static final class Blocks {
        final int[] base;
        final int[] size;
        final int[] kind;
        int count;

        Blocks(int most) {
            base = new int[most];
            size = new int[most];
            kind = new int[most];
        }

        void add(int blockBase, int blockSize, int kindOfIt) {
            if (count < base.length) {
                base[count] = blockBase;
                size[count] = blockSize;
                kind[count] = kindOfIt;
                count++;
            }
        }

        int tell(int i, int what) {
            if (i == NONE) {
                return count;
            }
            return i < 0 || i >= count ? NONE : pick(what, base[i], size[i], kind[i]);
        }
    }

    /**
     * SPACE halved till each block is WANTED alike, or FIXED: a node each, a node's lower half right
     * behind it, so that all within it stand together and halves have greater numbers than wholes.
     */
    private static final class Tree {
        private static final int MOST_CUTS = 2 * MOST_SPANS + 4;
        private static final int UNTOUCHED = -1;

        final int[] base = new int[MOST_NODES];
        final int[] size = new int[MOST_NODES];
        /** The upper half's node; 0: it is not halved. */
        final int[] upper = new int[MOST_NODES];
        /** The node behind all that are within this. */
        final int[] next = new int[MOST_NODES];
        final int[] want = new int[MOST_NODES];
        int count;
        int preferred;
        private int fixed;
        private final Edges edges = new Edges(MOST_CUTS);
        private final int[] cutAt = new int[MOST_CUTS];
        private final int[] cutWant = new int[MOST_CUTS];
        private int cuts;
        private int cut;

        void make(Store store, int byDefault) {
            preferred = byDefault;
            fixed = store.fixed;
            edges.begin(store.addresses);
            edges.cutSpans(store);
            edges.cut(fixed);
            joinAlike(store);
            count = 0;
            cut = 0;
            grow(0, store.addresses, 0);
        }

        private void joinAlike(Store store) {
            cuts = 0;
            for (int i = 0; i + 1 < edges.count; i++) {
                int start = edges.at[i];
                int wish = start < fixed ? UNTOUCHED : store.wantedAt(start, preferred);
                if (cuts == 0 || cutWant[cuts - 1] != wish) {
                    cutAt[cuts] = start;
                    cutWant[cuts] = wish;
                    cuts++;
                }
            }
            cutAt[cuts] = store.addresses;
        }

        private int grow(int blockBase, int blockSize, int depth) {
            if (count >= MOST_NODES) {
                return 0;
            }
            int node = count;
            count++;
            while (cut + 1 < cuts && cutAt[cut + 1] <= blockBase) {
                cut++;
            }
            base[node] = blockBase;
            size[node] = blockSize;
            want[node] = cutWant[cut];
            upper[node] = 0;
            if (cutAt[cut + 1] < blockBase + blockSize && depth < DEEPEST) {
                int half = blockSize / 2;
                grow(blockBase, half, depth + 1);
                upper[node] = grow(blockBase + half, half, depth + 1);
            }
            next[node] = count;
            return node;
        }

        /** How many addresses of a node are not FIXED. */
        int open(int node) {
            int end = base[node] + size[node];
            return Math.max(0, end - Math.max(base[node], fixed));
        }

        /** Whether a node that is not halved is RIGHT by what it has, SEEN through a PAGE's KIND. */
        boolean isRight(int node, int had, int pageKind) {
            int kindOfIt = had == NOTHING ? preferred : had;
            return want[node] == UNTOUCHED || SEEN[pageKind * PAGE_KINDS + kindOfIt] == want[node];
        }

        int pageKindFor(int node, int had) {
            for (int turn = 0; turn < PAGE_KINDS; turn++) {
                if (isRight(node, had, pageKindInTurn(turn))) {
                    return pageKindInTurn(turn);
                }
            }
            return NONE;
        }
    }

    /** The fewest blocks, by a table of how few a node needs by what it has from above. */
    private static final class Planner {
        private static final int HOPELESS = 10000;

        private final Tree tree = new Tree();
        private final int[] fewest = new int[MOST_NODES * HAVES];
        private final int[] chosen = new int[MOST_NODES * HAVES];
        private final int[] least = new int[HAVES];
        private boolean overOthers;
        private Blocks laid;
        private int[] pageKinds;

        int fewestAdded(Store store) {
            tree.make(store, store.preferred);
            overOthers = false;
            weighWithin(0, NO_OWN);
            return fewest[NOTHING];
        }

        int fewestOver(Store store, int byDefault) {
            tree.make(store, byDefault);
            overOthers = true;
            weighWithin(0, NO_OWN);
            return fewest[NOTHING];
        }

        void layPlan(Store store, Blocks target) {
            tree.make(store, store.preferred);
            overOthers = true;
            weighWithin(0, NO_OWN);
            laid = target;
            laid.count = 0;
            layWithin(0, NOTHING, 0);
        }

        void layPagedPlan(Store store, Blocks target, int[] targetKinds) {
            tree.make(store, store.preferred);
            overOthers = true;
            for (int node = tree.count - 1; node >= 0; node--) {
                if (tree.size[node] > PAGE) {
                    weighAbovePages(node);
                } else if (tree.size[node] == PAGE) {
                    choosePageKinds(node);
                }
            }
            laid = target;
            laid.count = 0;
            pageKinds = targetKinds;
            layAbovePages(0, NOTHING, 0);
        }

        private void weighWithin(int whole, int pageKind) {
            for (int node = tree.next[whole] - 1; node >= whole; node--) {
                for (int had = 0; had < HAVES; had++) {
                    int asItIs = tree.upper[node] != 0 ? byHalves(node, had)
                        : tree.isRight(node, had, pageKind) ? 0 : HOPELESS;
                    fewest[node * HAVES + had] = Math.min(asItIs, byItself(node, had));
                }
            }
        }

        private void weighAbovePages(int node) {
            for (int had = 0; had < HAVES; had++) {
                fewest[node * HAVES + had] = Math.min(byPages(node, had), byItself(node, had));
            }
        }

        private int byHalves(int node, int had) {
            int lower = fewest[(node + 1) * HAVES + had];
            return Math.min(HOPELESS, lower + fewest[tree.upper[node] * HAVES + had]);
        }

        /**
         * What is WANTED alike over more than a page needs nothing, or else one block in each half:
         * there the whole itself, with one, is ahead of them.
         */
        private int byPages(int node, int had) {
            if (tree.upper[node] != 0) {
                return byHalves(node, had);
            }
            return tree.pageKindFor(node, had) != NONE ? 0 : HOPELESS;
        }

        /** By the node itself with its best KIND; side by side alone, over nothing but NOTHING. */
        private int byItself(int node, int had) {
            int few = HOPELESS;
            for (int kind = 0; kind < KINDS && (overOthers || had == NOTHING); kind++) {
                int has = LAID[had * KINDS + kind];
                if (has >= 0) {
                    few = Math.min(few, 1 + fewest[node * HAVES + has]);
                }
            }
            return few;
        }

        private void choosePageKinds(int node) {
            for (int had = 0; had < HAVES; had++) {
                least[had] = HOPELESS + 1;
            }
            for (int turn = 0; turn < PAGE_KINDS; turn++) {
                weighWithin(node, pageKindInTurn(turn));
                for (int had = 0; had < HAVES; had++) {
                    if (fewest[node * HAVES + had] < least[had]) {
                        least[had] = fewest[node * HAVES + had];
                        chosen[node * HAVES + had] = pageKindInTurn(turn);
                    }
                }
            }
            for (int had = 0; had < HAVES; had++) {
                fewest[node * HAVES + had] = least[had];
            }
        }

        private void layWithin(int node, int had, int depth) {
            int has = had;
            for (int again = 0; again < HAVES && depth <= DEEPEST; again++) {
                int few = fewest[node * HAVES + has];
                if (few == 0 || few >= HOPELESS) {
                    return;
                }
                if (tree.upper[node] != 0 && byHalves(node, has) == few) {
                    layWithin(node + 1, has, depth + 1);
                    layWithin(tree.upper[node], has, depth + 1);
                    return;
                }
                has = layItself(node, has, few);
            }
        }

        /** Lays the node's block with the first KIND that leaves it as few as told: what it has then. */
        private int layItself(int node, int had, int few) {
            for (int kind = 0; kind < KINDS; kind++) {
                int has = LAID[had * KINDS + kind];
                if (has >= 0 && 1 + fewest[node * HAVES + has] == few) {
                    laid.add(tree.base[node], tree.size[node], kind);
                    return has;
                }
            }
            return had;
        }

        private void layAbovePages(int node, int had, int depth) {
            if (tree.size[node] <= PAGE) {
                layPage(node, had, depth);
                return;
            }
            int has = had;
            for (int again = 0; again < HAVES && depth <= DEEPEST; again++) {
                int few = fewest[node * HAVES + has];
                if (byPages(node, has) == few) {
                    layHalvesAbovePages(node, has, depth);
                    return;
                }
                has = layItself(node, has, few);
            }
        }

        private void layHalvesAbovePages(int node, int has, int depth) {
            if (tree.upper[node] != 0) {
                layAbovePages(node + 1, has, depth + 1);
                layAbovePages(tree.upper[node], has, depth + 1);
                return;
            }
            int first = tree.base[node] / PAGE;
            int last = first + tree.size[node] / PAGE - 1;
            int pageKind = tree.pageKindFor(node, has);
            for (int i = first; i <= last && i < pageKinds.length; i++) {
                pageKinds[i] = pageKind;
            }
        }

        /** The table of a page was last filled for another of its KINDS: it is filled anew. */
        private void layPage(int node, int had, int depth) {
            int pageKind = chosen[node * HAVES + had];
            pageKinds[tree.base[node] / PAGE] = pageKind;
            weighWithin(node, pageKind);
            layWithin(node, had, depth);
        }
    }

    /** The most addresses that so many blocks can put right, by what a node has from above. */
    private static final class Filler {
        private static final int COUNTS = MOST_LAID + 1;

        private final Tree tree = new Tree();
        private final int[] most = new int[MOST_NODES * HAVES * COUNTS];
        private Blocks laid;

        void make(Store store) {
            tree.make(store, store.preferred);
            for (int node = tree.count - 1; node >= 0; node--) {
                for (int had = 0; had < HAVES; had++) {
                    weigh(node, had);
                }
            }
        }

        int mostRight(int blocks) {
            return most[cell(0, NOTHING, blocks)];
        }

        void layBest(int blocks, Blocks target) {
            laid = target;
            laid.count = 0;
            layWithin(0, NOTHING, blocks, 0);
        }

        private static int cell(int node, int had, int blocks) {
            return (node * HAVES + had) * COUNTS + blocks;
        }

        /** Blocks more do nothing where all are RIGHT already, nor over KIND 0, which always wins. */
        private void weigh(int node, int had) {
            int open = tree.open(node);
            int best = -1;
            for (int blocks = 0; blocks < COUNTS; blocks++) {
                if (blocks == 0 || best < open && had != 0) {
                    best = Math.max(asItIs(node, had, blocks), byItself(node, had, blocks));
                }
                most[cell(node, had, blocks)] = best;
            }
        }

        private int asItIs(int node, int had, int blocks) {
            if (tree.upper[node] != 0) {
                return bestByHalves(node, had, blocks);
            }
            return tree.isRight(node, had, NO_OWN) ? tree.open(node) : 0;
        }

        private int byItself(int node, int had, int blocks) {
            int best = 0;
            for (int kind = 0; kind < KINDS && blocks > 0; kind++) {
                int has = LAID[had * KINDS + kind];
                if (has >= 0) {
                    best = Math.max(best, most[cell(node, has, blocks - 1)]);
                }
            }
            return best;
        }

        private int bestByHalves(int node, int had, int blocks) {
            int lower = cell(node + 1, had, 0);
            int upper = cell(tree.upper[node], had, blocks);
            int best = 0;
            for (int i = 0; i <= blocks; i++) {
                best = Math.max(best, most[lower + i] + most[upper - i]);
            }
            return best;
        }

        private int byHalves(int node, int had, int lower, int upper) {
            return most[cell(node + 1, had, lower)] + most[cell(tree.upper[node], had, upper)];
        }

        private void layWithin(int node, int had, int blocks, int depth) {
            if (tree.upper[node] == 0) {
                layAlike(node, tree.base[node], tree.size[node], had, blocks, depth);
                return;
            }
            int has = had;
            for (int left = blocks; left > 0 && has >= 0 && depth <= DEEPEST; left--) {
                int best = most[cell(node, has, left)];
                if (most[cell(node, has, 0)] == best) {
                    return;
                }
                for (int lower = 0; lower <= left; lower++) {
                    if (byHalves(node, has, lower, left - lower) == best) {
                        layWithin(node + 1, has, lower, depth + 1);
                        layWithin(tree.upper[node], has, left - lower, depth + 1);
                        return;
                    }
                }
                int kind = firstKind(node, has, left);
                laid.add(tree.base[node], tree.size[node], kind);
                has = LAID[has * KINDS + kind];
            }
        }

        /**
         * Within a node that is WANTED alike: with two blocks or more both halves do as well as the
         * whole, and are ahead of it; one for the lower half is the least by which it is RIGHT.
         */
        private void layAlike(int node, int base, int size, int had, int blocks, int depth) {
            int has = had;
            for (int left = blocks; left > 0 && has >= 0 && depth <= DEEPEST; left--) {
                if (most[cell(node, has, 0)] == most[cell(node, has, left)]) {
                    return;
                }
                if (size > 1 && left > 1) {
                    int half = size / 2;
                    layAlike(node, base, half, has, 1, depth + 1);
                    layAlike(node, base + half, half, has, left - 1, depth + 1);
                    return;
                }
                int kind = firstKind(node, has, left);
                laid.add(base, size, kind);
                has = LAID[has * KINDS + kind];
            }
        }

        /** The first KIND of a node's own block by which as many are RIGHT as can be. */
        private int firstKind(int node, int had, int blocks) {
            int best = most[cell(node, had, blocks)];
            for (int kind = 0; kind < KINDS; kind++) {
                int has = LAID[had * KINDS + kind];
                if (has >= 0 && most[cell(node, has, blocks - 1)] == best) {
                    return kind;
                }
            }
            return 0;
        }
    }

    /** The STEPS from REGISTERS to the PLAN, and their ORDER. */
    private static final class Change {
        /** Both ends, 10 registers, 10 blocks of the plan and the fixed part cut 43 times at most. */
        private static final int MOST_CUTS = 44;
        /** Stands for all REGISTERS that stay. */
        private static final int STAYS = 1 << MOST_STEPS;

        int goes;
        int comes;
        boolean workable;
        boolean safe;
        final int[] inOrder = new int[MOST_STEPS];
        private final Edges edges = new Edges(MOST_CUTS);
        /** Of each piece and KIND the STEPS, a bit each, whose block is over it. */
        private final int[] stepsOver = new int[MOST_CUTS * KINDS];
        private final int[] firstKind = new int[MOST_CUTS];
        private final int[] lastKind = new int[MOST_CUTS];
        private final long[] deadEnds = new long[1 << MOST_STEPS - 6];
        private int fixed;
        private int preferred;
        private int empty;

        void make(Store store, Blocks plan) {
            countSteps(store, plan);
            workable = plan.count <= store.registers && goes + comes <= MOST_STEPS;
            safe = false;
            if (!workable) {
                return;
            }
            fixed = store.fixed;
            preferred = store.preferred;
            empty = store.registers - store.countSet();
            cutPieces(store, plan);
            placeSteps(store, plan);
            for (int i = 0; i + 1 < edges.count; i++) {
                firstKind[i] = kindBehind(i, 0);
                lastKind[i] = kindBehind(i, allSteps());
            }
            for (int i = 0; i < deadEnds.length; i++) {
                deadEnds[i] = 0;
            }
            safe = finds(0, 0);
        }

        boolean hasStep(int i) {
            return safe && i >= 0 && i < goes + comes;
        }

        int stirredBy(int i) {
            int ahead = 0;
            for (int j = 0; j < i; j++) {
                ahead |= 1 << inOrder[j];
            }
            int behind = ahead | 1 << inOrder[i];
            int others = 0;
            for (int j = 0; j + 1 < edges.count; j++) {
                if (edges.at[j] >= fixed && kindBehind(j, ahead) != kindBehind(j, behind)) {
                    others += edges.at[j + 1] - edges.at[j];
                }
            }
            return others;
        }

        private void countSteps(Store store, Blocks plan) {
            goes = 0;
            for (int i = 0; i < store.registers; i++) {
                goes += store.isSet(i) && !stays(store, i, plan) ? 1 : 0;
            }
            comes = plan.count - (store.countSet() - goes);
        }

        private static boolean stays(Store store, int register, Blocks plan) {
            for (int i = 0; i < plan.count; i++) {
                if (isSame(store, register, plan, i)) {
                    return true;
                }
            }
            return false;
        }

        private static boolean isThere(Store store, Blocks plan, int block) {
            for (int i = 0; i < store.registers; i++) {
                if (isSame(store, i, plan, block)) {
                    return true;
                }
            }
            return false;
        }

        private static boolean isSame(Store store, int register, Blocks plan, int block) {
            return store.base[register] == plan.base[block] && store.size[register] == plan.size[block]
                && store.blockKind[register] == plan.kind[block];
        }

        private void cutPieces(Store store, Blocks plan) {
            edges.begin(store.addresses);
            edges.cut(store.fixed);
            edges.cutRegisters(store);
            for (int i = 0; i < plan.count; i++) {
                edges.cut(plan.base[i]);
                edges.cut(plan.base[i] + plan.size[i]);
            }
        }

        private void placeSteps(Store store, Blocks plan) {
            for (int i = 0; i < stepsOver.length; i++) {
                stepsOver[i] = 0;
            }
            int step = 0;
            for (int i = 0; i < store.registers; i++) {
                boolean goesAway = store.isSet(i) && !stays(store, i, plan);
                place(goesAway ? 1 << step : STAYS, store.base[i], store.size[i], store.blockKind[i]);
                step += goesAway ? 1 : 0;
            }
            for (int i = 0; i < plan.count; i++) {
                if (!isThere(store, plan, i)) {
                    place(1 << step, plan.base[i], plan.size[i], plan.kind[i]);
                    step++;
                }
            }
        }

        private void place(int bit, int base, int size, int kind) {
            for (int i = 0; i + 1 < edges.count; i++) {
                if (edges.at[i] >= base && edges.at[i] < base + size) {
                    stepsOver[i * KINDS + kind] |= bit;
                }
            }
        }

        private int allSteps() {
            return (1 << goes + comes) - 1;
        }

        private int allGoes() {
            return (1 << goes) - 1;
        }

        /** Done, a GO's block is away and a COME's is there; not done, it is the other way round. */
        private int kindBehind(int piece, int done) {
            int there = done ^ allGoes() | STAYS;
            int kinds = 0;
            for (int kind = 0; kind < KINDS; kind++) {
                kinds |= (stepsOver[piece * KINDS + kind] & there) != 0 ? 1 << kind : 0;
            }
            return together(kinds, preferred);
        }

        private boolean isSafe(int done) {
            for (int i = 0; i + 1 < edges.count; i++) {
                if (edges.at[i] >= fixed) {
                    int kind = kindBehind(i, done);
                    if (kind != 0 && kind != firstKind[i] && kind != lastKind[i]) {
                        return false;
                    }
                }
            }
            return true;
        }

        private boolean hasRoom(int done) {
            return empty + Integer.bitCount(done & allGoes()) > Integer.bitCount(done >> goes);
        }

        /**
         * What stands behind STEPS does not depend on their order: a set of them that was no way out
         * once never is one, and is not tried again.
         */
        private boolean finds(int done, int depth) {
            if (done == allSteps()) {
                return true;
            }
            for (int step = 0; step < goes + comes && depth < MOST_STEPS; step++) {
                int then = done | 1 << step;
                boolean can = then != done && (step < goes || hasRoom(done));
                if (can && !isDeadEnd(then) && isSafe(then)) {
                    inOrder[depth] = step;
                    if (finds(then, depth + 1)) {
                        return true;
                    }
                }
                if (can) {
                    deadEnds[then >> 6] |= 1L << (then & 63);
                }
            }
            return false;
        }

        private boolean isDeadEnd(int done) {
            return (deadEnds[done >> 6] >> (done & 63) & 1L) != 0L;
        }
    }
}
