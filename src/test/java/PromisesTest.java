/** Each promise of the document by itself; what is due was found by hand. */
public final class PromisesTest extends Bench {
    private static void newObject() {
        SpanKinds x = new SpanKinds();
        int[] due = {256, 8, 0, 0, 0, 0, 1, 0, 0, 0, 16, 0};
        for (int i = 0; i < due.length; i++) {
            due("about(" + i + ")", x.about(i), due[i]);
        }
        for (int i = 0; i < 8; i++) {
            due("register", x.register(i, 1), -1);
            due("part", x.part(i), -1);
        }
        due("told", x.told(0, 0), -1);
        due("paged", x.paged(15), 5);
        due("differs", x.differs(0, 0), -1);
    }

    private static void feed() {
        SpanKinds x = new SpanKinds();
        for (int i = 1; i <= 40; i++) {
            due("feed", x.feed(0x20202020, 0x20202020, 0x20202020, 0x20202020, 0x20202020), 20 * i);
        }
        due("feed of too much", x.feed(0, 0, 0, 0, 0), -1);
        due("about(9)", x.about(9), 800);
        due("end", x.end(781), 781);
        due("feed of one too many", x.feed(0, 0, 0, 0, 0), -1);
        due("end", x.end(780), 780);
        due("feed", x.feed(0, 0, 0, 0, 0), 800);
        due("store", x.store(), -1);
        due("the place of byte 780", x.fault(1), 780);
        due("feed", x.feed(0x7370616e, 0x20302031, 0x20746872, 0x753b0a20, 0x0000003b), 20);
        due("end", x.end(16), 16);
        due("store, the highest byte first", x.store(), 1);
        due("told", x.told(0, 2), 2);
        due("feed", x.feed(-1, Integer.MIN_VALUE, Integer.MAX_VALUE, 0, -2), 20);
        due("store", x.store(), -1);
        due("a byte above 127", x.fault(0), 1);
    }

    private static void end() {
        SpanKinds x = new SpanKinds();
        due("end of nothing", x.end(0), 0);
        due("end", x.end(1), -1);
        x.feed(0, 0, 0, 0, 0);
        due("end", x.end(21), -1);
        due("end", x.end(-1), -1);
        due("end", x.end(Integer.MIN_VALUE), -1);
        due("about(9)", x.about(9), 20);
        due("end", x.end(20), 20);
        due("end", x.end(7), 7);
        due("about(9)", x.about(9), 7);
        due("end", x.end(8), -1);
        due("end", x.end(0), 0);
        due("store", x.store(), 0);
    }

    private static void store() {
        SpanKinds x = of("default back;space 5;registers 3;span 0 3 comb;reg 8 8 thru;reg 0 32 prot;"
            + "page 1 none;fixed 3 none comb thru prot back none comb thru;");
        due("about(0)", x.about(0), 32);
        due("about(1)", x.about(1), 3);
        due("about(2)", x.about(2), 2);
        due("about(3)", x.about(3), 4);
        due("about(5)", x.about(5), 8);
        due("register", x.register(0, 0), 8);
        due("register", x.register(1, 1), 32);
        due("paged", x.paged(1), 0);
        due("paged", x.paged(0), 5);
        due("part", x.part(4), 4);
        due("image", x.image(0), 1);
        x.span(1, 2, 3);
        write(x, "span 1 2 none; oh");
        due("store with a fault", x.store(), -1);
        due("the tape is empty", x.about(9), 0);
        due("all stays", x.about(0), 32);
        due("spans stay", x.about(4), 2);
        due("acts stay", x.about(7), 1);
        due("boxes stay", x.differs(0, 1), 2);
        x.undo();
        due("done again stays", x.about(8), 1);
        write(x, "");
        due("store of nothing", x.store(), 0);
        due("about(0)", x.about(0), 256);
        due("about(1)", x.about(1), 8);
        due("about(2)", x.about(2), 0);
        due("about(3)", x.about(3), 0);
        due("about(5)", x.about(5), 0);
        due("about(11)", x.about(11), 0);
        due("no acts", x.about(7) + x.about(8), 0);
        due("boxes are empty", x.back(0), -1);
        good(" \n span\n0 3none;span 4 4back;", 2);
        good("space 10; registers 10; span 0 1023 none;", 1);
        good("space 0004;default none;", 0);
    }

    private static void fault() {
        SpanKinds x = new SpanKinds();
        due("fault(0) ahead of any", x.fault(0), 0);
        due("fault(1) ahead of any", x.fault(1), -1);
        due("fault(2)", x.fault(2), -1);
        due("fault(-1)", x.fault(-1), -1);
        faulty("oh;", 1, 0);
        faulty("  ;", 1, 2);
        faulty("7", 1, 0);
        faulty("space", 1, 5);
        faulty("space 5 ", 1, 8);
        faulty("space 5 5;", 1, 8);
        faulty("space none;", 1, 6);
        faulty("default 1;", 1, 8);
        faulty("default nonee;", 1, 8);
        faulty("default nonez;", 1, 8);
        faulty("default anone;", 1, 8);
        faulty("default none`;", 1, 12);
        faulty("default none{;", 1, 12);
        faulty("space 4/;", 1, 7);
        faulty("space 4:;", 1, 7);
        faulty("space 4\n\n", 1, 9);
        faulty("span\u00e9 4;", 1, 4);
        faulty("spaces 4;", 1, 0);
        faulty("Space 4;", 1, 0);
        faulty("space\t4;", 1, 5);
        faulty("span 1 2 ;", 1, 9);
        faulty("span 1 2 none none;", 1, 14);
        faulty("none;", 1, 0);
        faulty("space 3;", 2, 6);
        faulty("space 11;", 2, 6);
        faulty("space 4294967304;", 2, 6);
        faulty("registers 0;", 2, 10);
        faulty("registers 11;", 2, 10);
        faulty("span 256 256 none;", 2, 5);
        faulty("span 0 256 none;", 2, 7);
        faulty("span 5 4 none;", 2, 7);
        faulty("reg 256 1 none;", 2, 4);
        faulty("reg 0 0 none;", 2, 6);
        faulty("reg 0 3 none;", 2, 6);
        faulty("reg 0 512 none;", 2, 6);
        faulty("reg 4 8 none;", 2, 6);
        faulty("page 16 none;", 2, 5);
        faulty("space 4;page 1 none;", 2, 13);
        faulty("fixed 2 none;", 2, 6);
        faulty("fixed 9 none;", 2, 6);
        faulty("space 4; space 4;", 3, 9);
        faulty("registers 4; registers 5;", 3, 13);
        faulty("default none; default none;", 3, 14);
        faulty("page 0 none; default none;", 3, 13);
        faulty("reg 0 1 none; registers 4;", 3, 14);
        faulty("fixed 3" + times(" none", 8) + ";space 4;", 3, 48);
        faulty("fixed 3" + times(" none", 8) + ";fixed 3", 3, 48);
        faulty("reg 0 8 none; reg 0 8 back;", 3, 20);
        faulty("page 3 none; page 3 none;", 3, 18);
        faulty(times("span 0 0 none;", 12) + "span oh", 4, 168);
        faulty("registers 1;reg 0 1 none;reg oh", 4, 25);
        faulty("fixed 3" + times(" none", 9) + ";", 4, 48);
        faulty("fixed 3" + times(" none", 7) + " ;", 4, 43);
        faulty("fixed 3" + times(" none", 7) + " 5", 1, 43);
        faulty("fixed 3 ;", 1, 8);
        faulty("fixed 3" + times(" none", 8), 1, 47);
        good(times("span 0 0 none;", 12), 12);
        good("space 5;fixed 5" + times(" none", 8) + ";page 1 none;", 0);
        good("reg 0 8 none; reg 8 8 none; reg 0 16 none;", 0);
    }

    private static void span() {
        SpanKinds x = of("space 4;");
        due("span", x.span(0, 15, 4), 0);
        due("span", x.span(15, 15, 0), 1);
        due("wanted", x.wanted(15), 0);
        int[][] bad = {{-1, 3, 0}, {0, 16, 0}, {4, 3, 0}, {16, 16, 0}, {0, 3, 5}, {0, 3, -1},
            {Integer.MIN_VALUE, Integer.MAX_VALUE, 0}};
        for (int[] b : bad) {
            due("span that can't be", x.span(b[0], b[1], b[2]), -1);
        }
        due("no act", x.about(7), 2);
        for (int i = 2; i < 12; i++) {
            due("span", x.span(i, i, i % 5), i);
        }
        due("a thirteenth", x.span(0, 0, 0), -1);
        due("about(4)", x.about(4), 12);
    }

    private static void drop() {
        SpanKinds x = of("space 4;span 0 3 comb;span 2 5 thru;span 4 7 prot;");
        due("drop", x.drop(3), -1);
        due("drop", x.drop(-1), -1);
        due("drop", x.drop(1), 2);
        due("told", x.told(1, 0), 4);
        due("told", x.told(1, 2), 3);
        due("wanted", x.wanted(3), 1);
        due("drop", x.drop(1), 1);
        due("drop", x.drop(0), 0);
        due("drop", x.drop(0), -1);
        due("wanted", x.wanted(3), 0);
        due("acts", x.about(7), 3);
    }

    private static void prefer() {
        SpanKinds x = of("space 4;default thru;span 3 3 comb;");
        due("prefer", x.prefer(4), 2);
        due("prefer", x.prefer(4), 4);
        due("prefer", x.prefer(5), -1);
        due("prefer", x.prefer(-1), -1);
        due("wanted", x.wanted(0), 4);
        due("wanted", x.wanted(3), 1);
        due("kind", x.kind(3), 4);
        due("acts, the one without a change too", x.about(7), 2);
    }

    private static void fix() {
        SpanKinds x = of("space 5;fixed 4 none comb thru prot back none comb thru;");
        due("fix", x.fix(7, 4), 2);
        due("fix", x.fix(7, 4), 4);
        due("kind", x.kind(14), 4);
        due("kind", x.kind(15), 4);
        due("kind", x.kind(13), 1);
        due("fix", x.fix(8, 0), -1);
        due("fix", x.fix(-1, 0), -1);
        due("fix", x.fix(0, 5), -1);
        due("fix", x.fix(0, -1), -1);
        due("acts", x.about(7), 2);
        due("fix without fixed", new SpanKinds().fix(0, 0), -1);
    }

    private static void set() {
        SpanKinds x = of("space 4;registers 2;");
        due("set", x.set(1, 0, 16, 4), true);
        due("the same again", x.set(1, 0, 16, 4), true);
        due("of another kind", x.set(1, 0, 16, 3), true);
        due("another has it", x.set(0, 0, 16, 3), false);
        due("set", x.set(0, 0, 8, 3), true);
        int[][] bad = {{-1, 0, 1, 0}, {2, 0, 1, 0}, {0, -1, 1, 0}, {0, 16, 1, 0}, {0, 0, 0, 0}, {0, 0, 3, 0},
            {0, 0, 32, 0}, {0, 2, 4, 0}, {0, 0, 1, 5}, {0, 0, 1, -1}, {0, 0, -16, 0},
            {0, 0, Integer.MIN_VALUE, 0}, {0, Integer.MIN_VALUE, 1, 0}};
        for (int[] b : bad) {
            due("set that can't be", x.set(b[0], b[1], b[2], b[3]), false);
        }
        due("acts", x.about(7), 4);
        due("set", x.set(0, 15, 1, 2), true);
        due("register", x.register(0, 0), 15);
        due("kind", x.kind(7), 3);
        due("clash", x.kind(15), 5);
    }

    private static void clear() {
        SpanKinds x = of("space 4;reg 0 8 comb;");
        due("clear", x.clear(1), false);
        due("clear", x.clear(8), false);
        due("clear", x.clear(-1), false);
        due("clear", x.clear(0), true);
        due("clear", x.clear(0), false);
        due("kind", x.kind(0), 0);
        due("acts", x.about(7), 1);
    }

    private static void lay() {
        SpanKinds x = of("space 4;registers 3;span 0 7 back;span 4 5 thru;reg 15 1 none;reg 14 1 prot;reg 13 1 comb;");
        due("lay", x.lay(), 2);
        int[][] due = {{0, 8, 4}, {4, 2, 2}};
        for (int i = 0; i < 2; i++) {
            for (int what = 0; what < 3; what++) {
                due("register", x.register(i, what), due[i][what]);
            }
        }
        due("the others are empty", x.register(2, 0), -1);
        due("wrong", x.wrong(0), 0);
        x.span(1, 1, 1);
        due("0, 1, 2 to 3, 4 to 7 and 4 to 5 over it", x.cost(1), 5);
        due("lay", x.lay(), -1);
        due("nothing happened", x.about(2), 2);
        due("acts", x.about(7), 2);
        due("lay of nothing", new SpanKinds().lay(), 0);
    }

    private static void page() {
        SpanKinds x = of("space 5;page 1 thru;");
        due("page", x.page(1, 4), 2);
        due("page", x.page(1, 4), 4);
        due("page", x.page(0, 0), 5);
        due("page", x.page(0, 5), 0);
        due("page", x.page(2, 0), -1);
        due("page", x.page(-1, 0), -1);
        due("page", x.page(0, 6), -1);
        due("page", x.page(0, -1), -1);
        due("acts", x.about(7), 4);
    }

    private static void mend() {
        SpanKinds x = of("space 6;default back;span 0 15 thru;span 16 23 prot;span 32 63 comb;page 3 comb;page 1 none;");
        due("page 0 can be, 1 can't, 2 can be, 3 is", x.mend(), 2);
        due("paged", x.paged(0), 2);
        due("paged", x.paged(1), 0);
        due("paged", x.paged(2), 1);
        due("paged", x.paged(3), 1);
        due("again", x.mend(), 0);
        due("acts", x.about(7), 2);
        SpanKinds y = of("space 5;fixed 4" + times(" none", 8) + ";span 0 15 back;page 0 comb;page 1 back;");
        due("fixed ones do not count", y.mend(), 2);
        due("paged", y.paged(0), 5);
    }

    private static void layAll() {
        SpanKinds y = of("space 4;registers 1;span 0 7 thru;span 8 11 comb;reg 3 1 none;page 0 none;");
        due("layAll: two blocks", y.layAll(), -1);
        due("nothing happened", y.register(0, 0), 3);
        due("nothing happened", y.paged(0), 0);
        due("acts", y.about(7), 0);
        SpanKinds x = of("space 6;registers 1;span 0 31 thru;span 32 63 prot;reg 3 1 none;page 0 none;");
        due("layAll: back for all, seen as thru and prot", x.layAll(), 1);
        due("register", x.register(0, 1) * 10 + x.register(0, 2), 644);
        due("paged", x.paged(0) * 1000 + x.paged(1) * 100 + x.paged(2) * 10 + x.paged(3), 2233);
        due("strange", x.strange(0), 0);
        x.prefer(4);
        due("layAll: by pages alone", x.layAll(), 0);
        due("registers are empty", x.about(2), 0);
        due("paged", x.paged(0) * 1000 + x.paged(1) * 100 + x.paged(2) * 10 + x.paged(3), 2233);
        due("strange", x.strange(0), 0);
        x.prefer(0);
        x.drop(1);
        due("layAll: the rest is the default", x.layAll(), 1);
        due("register", x.register(0, 1), 32);
        due("register", x.register(0, 2), 2);
        due("paged", x.paged(0), 5);
        due("paged", x.paged(3), 5);
        due("acts", x.about(7), 6);
    }

    private static void tidy() {
        SpanKinds x = of("space 4;default comb;span 0 15 comb;span 2 8 thru;span 4 6 comb;span 9 9 thru;span 3 3 back;");
        due("tidy", x.tidy(), 3);
        int[][] due = {{2, 2, 2}, {3, 3, 4}, {7, 9, 2}};
        for (int i = 0; i < 3; i++) {
            for (int what = 0; what < 3; what++) {
                due("told " + i, x.told(i, what), due[i][what]);
            }
        }
        due("told", x.told(3, 0), -1);
        due("acts", x.about(7), 1);
    }

    private static void tidyMany() {
        SpanKinds x = of("space 5;span 0 24 comb;" + times("span 31 31 none;", 0));
        for (int i = 0; i < 11; i++) {
            x.span(2 * i + 1, 2 * i + 1, 0);
        }
        due("runs", x.about(6), 24);
        due("12 of them are not the default", x.tidy(), 12);
        x.prefer(4);
        due("runs", x.about(6), 24);
        due("tidy: 12", x.tidy(), 12);
        SpanKinds y = of("space 6;default back;span 0 40 comb;");
        for (int i = 0; i < 11; i++) {
            y.span(2 * i + 1, 2 * i + 1, 0);
        }
        due("tidy: 23 are too many", y.tidy(), -1);
        due("nothing happened", y.about(4), 12);
        due("acts", y.about(7), 11);
    }

    private static void undo() {
        SpanKinds x = of("space 5;fixed 3" + times(" comb", 8) + ";reg 0 16 back;page 0 thru;span 0 1 prot;");
        due("undo of nothing", x.undo(), false);
        x.span(4, 9, 2);
        x.drop(0);
        x.prefer(3);
        x.fix(0, 4);
        x.set(1, 16, 16, 1);
        x.clear(0);
        x.page(1, 3);
        x.layAll();
        x.tidy();
        due("acts", x.about(7), 9);
        for (int i = 0; i < 9; i++) {
            due("undo", x.undo(), true);
        }
        due("undo", x.undo(), false);
        due("acts to be done again", x.about(8), 9);
        due("spans", x.about(4) * 100 + x.told(0, 1) * 10 + x.told(0, 2), 113);
        due("default", x.about(3), 0);
        due("part", x.part(0), 1);
        due("register", x.register(0, 2), 4);
        due("register", x.register(1, 2), -1);
        due("pages", x.paged(0) * 10 + x.paged(1), 25);
        for (int i = 0; i < 20; i++) {
            x.prefer(i % 5);
        }
        due("16 at most", x.about(7), 16);
        for (int i = 0; i < 16; i++) {
            due("undo", x.undo(), true);
        }
        due("undo", x.undo(), false);
        due("the oldest are gone", x.about(3), 3);
        due("to be done again", x.about(8), 16);
    }

    private static void redo() {
        SpanKinds x = new SpanKinds();
        due("redo of nothing", x.redo(), false);
        x.span(0, 3, 1);
        x.span(4, 7, 2);
        x.undo();
        x.undo();
        due("redo", x.redo(), true);
        due("wanted", x.wanted(0) * 10 + x.wanted(4), 10);
        due("redo", x.redo(), true);
        due("wanted", x.wanted(0) * 10 + x.wanted(4), 12);
        due("redo", x.redo(), false);
        x.undo();
        due("refused, no act", x.span(5, 4, 0), -1);
        due("still there", x.about(8), 1);
        x.mend();
        due("an act that changes nothing ends it", x.redo(), false);
        due("acts", x.about(7), 2);
    }

    /** What was found out ahead of an ACT is not told behind it. */
    private static void found(String when, SpanKinds x, int blocks, int right, int pages, int steps) {
        due(when + ": plan", x.plan(-1, 0), blocks);
        due(when + ": most", x.most(1), right);
        due(when + ": bestSet", x.bestSet(10, -1, 0) > 0, blocks > 0);
        due(when + ": withPages", x.withPages(1), pages);
        due(when + ": change", x.change(0), steps);
        due(when + ": runs", x.about(6), blocks + 1);
    }

    private static void foundAnew() {
        SpanKinds x = of("space 5;default back;");
        found("at first", x, 0, 32, 0, 0);
        x.span(16, 31, 2);
        found("span", x, 1, 32, 1, 1);
        x.undo();
        found("undo", x, 0, 32, 0, 0);
        x.redo();
        found("redo", x, 1, 32, 1, 1);
        x.image(0);
        x.drop(0);
        found("drop", x, 0, 32, 0, 0);
        x.back(0);
        found("back", x, 1, 32, 1, 1);
        x.prefer(2);
        found("prefer", x, 0, 32, 0, 0);
        x.prefer(4);
        x.lay();
        found("lay", x, 1, 32, 1, 0);
        x.clear(0);
        found("clear", x, 1, 32, 1, 1);
        x.set(3, 16, 16, 2);
        found("set", x, 1, 32, 1, 0);
        x.layAll();
        found("layAll", x, 1, 32, 1, 1);
        write(x, "space 5;span 16 16 prot;");
        x.store();
        due("store", x.plan(0, 1), 1);
        due("store", x.most(0), 31);
        due("store", x.withPages(1), 0);
    }

    private static void told() {
        SpanKinds x = of("span 3 200 back;");
        due("told", x.told(0, 0), 3);
        due("told", x.told(0, 1), 200);
        due("told", x.told(0, 2), 4);
        due("told", x.told(0, 3), -1);
        due("told", x.told(0, -1), -1);
        due("told", x.told(1, 0), -1);
        due("told", x.told(-1, 0), -1);
    }

    private static void register() {
        SpanKinds x = of("registers 2;reg 64 32 prot;");
        due("register", x.register(0, 0), 64);
        due("register", x.register(0, 1), 32);
        due("register", x.register(0, 2), 3);
        due("register", x.register(0, 3), -1);
        due("register", x.register(0, -1), -1);
        due("register", x.register(1, 0), -1);
        due("register", x.register(2, 0), -1);
        due("register", x.register(-1, 0), -1);
    }

    private static void part() {
        SpanKinds x = of("fixed 8 none comb thru prot back none comb thru;");
        int[] due = {0, 1, 2, 3, 4, 0, 1, 2};
        for (int i = 0; i < 8; i++) {
            due("part", x.part(i), due[i]);
            due("kind", x.kind(32 * i), due[i]);
            due("kind", x.kind(32 * i + 31), due[i]);
        }
        due("part", x.part(8), -1);
        due("part", x.part(-1), -1);
        due("part", new SpanKinds().part(0), -1);
    }

    private static void wanted() {
        SpanKinds x = of("space 4;default prot;span 4 9 comb;span 6 11 back;fixed 3" + times(" none", 8) + ";");
        int[] due = {3, 3, 3, 3, 1, 1, 4, 4, 4, 4, 4, 4, 3, 3, 3, 3};
        for (int i = 0; i < 16; i++) {
            due("wanted", x.wanted(i), due[i]);
        }
        due("wanted", x.wanted(16), -1);
        due("wanted", x.wanted(-1), -1);
    }

    private static void kind() {
        SpanKinds x = of("space 5;registers 10;default comb;");
        int[] pairs = {0, 0, 0, 0, 0, 0, 1, 5, 5, 5, 0, 5, 2, 5, 2, 0, 5, 5, 3, 5, 0, 5, 2, 5, 4};
        for (int a = 0; a < 5; a++) {
            for (int b = 0; b < 5; b++) {
                x.set(0, 0, 32, a);
                x.set(1, 0, 16, b);
                due("kind of " + a + " and " + b, x.kind(3), pairs[5 * a + b]);
                due("kind of " + a, x.kind(16), a);
            }
        }
        x.set(0, 0, 32, 4);
        x.set(1, 0, 16, 2);
        x.set(2, 0, 8, 1);
        due("2, 4, 1 clash", x.kind(0), 5);
        x.set(3, 0, 4, 0);
        due("not with a 0", x.kind(0), 0);
        x.clear(0);
        due("without any", x.kind(31), 1);
        due("kind", x.kind(32), -1);
        due("kind", x.kind(-1), -1);
        SpanKinds y = of("space 4;fixed 3" + times(" prot", 8) + ";reg 0 16 comb;");
        due("fixed, whatever registers say", y.kind(7), 3);
        due("not fixed", y.kind(8), 1);
    }

    private static void run() {
        SpanKinds x = of("space 4;span 0 3 comb;span 4 7 comb;span 15 15 back;span 9 9 none;");
        due("runs", x.run(-1, 99), 3);
        int[][] due = {{0, 7, 1}, {8, 14, 0}, {15, 15, 4}};
        for (int i = 0; i < 3; i++) {
            for (int what = 0; what < 3; what++) {
                due("run " + i, x.run(i, what), due[i][what]);
            }
        }
        due("run", x.run(0, 3), -1);
        due("run", x.run(0, -1), -1);
        due("run", x.run(3, 0), -1);
        due("run", x.run(-2, 0), -1);
    }

    private static void paged() {
        SpanKinds x = of("space 10;page 63 none;");
        due("paged", x.paged(63), 0);
        due("paged", x.paged(62), 5);
        due("paged", x.paged(64), -1);
        due("paged", x.paged(-1), -1);
    }

    private static void seen() {
        SpanKinds x = of("space 4;reg 1 1 comb;reg 2 1 thru;reg 3 1 prot;reg 4 1 back;reg 0 1 none;reg 5 1 comb;reg 4 2 prot;");
        x.set(6, 8, 8, 4);
        x.clear(5);
        x.set(5, 8, 1, 1);
        String[] due = {"00000", "01111", "01202", "01033", "01234", "01234"};
        x.clear(6);
        x.set(6, 15, 1, 4);
        x.set(7, 14, 2, 1);
        x.set(4, 0, 1, 0);
        x.clear(3);
        x.set(3, 4, 1, 4);
        for (int p = 0; p < 6; p++) {
            x.page(0, p);
            for (int k = 0; k < 5; k++) {
                due("seen of " + p + " and " + k, x.seen(k), due[p].charAt(k) - '0');
            }
            due("a clash seen", x.seen(15), 5);
        }
        due("seen", x.seen(16), -1);
        due("seen", x.seen(-1), -1);
        SpanKinds y = of("space 4;fixed 3" + times(" thru", 8) + ";page 0 prot;");
        due("a fixed one is seen so too", y.seen(0), 0);
    }

    private static void strange() {
        SpanKinds x = of("space 5;default back;fixed 3" + times(" back", 8) + ";span 16 31 thru;page 1 thru;span 30 30 comb;");
        due("strange", x.strange(0), 1);
        due("strange", x.strange(1), 30);
        x.page(0, 3);
        due("strange", x.strange(0), 17);
        due("strange, fixed ones too", x.strange(1), 0);
        x.page(0, 4);
        x.drop(1);
        due("strange", x.strange(0), 0);
        due("strange", x.strange(1), -1);
        due("strange", x.strange(2), -1);
        due("strange", x.strange(-1), -1);
    }

    private static void mendable() {
        SpanKinds x = of("space 7;default back;span 16 31 none;span 32 47 comb;span 48 63 thru;span 64 79 prot;"
            + "span 80 80 none;reg 96 16 comb;reg 96 32 prot;");
        int[] due = {5, 0, 1, 2, 3, -1, -1, -1};
        for (int i = 0; i < 8; i++) {
            due("mendable " + i, x.mendable(i), due[i]);
        }
        due("mendable", x.mendable(8), -1);
        due("mendable", x.mendable(-1), -1);
        SpanKinds y = of("space 4;fixed 3" + times(" comb", 8) + ";span 0 7 back;reg 8 8 prot;span 8 15 none;");
        due("by 0, as 3 with 2 is later", y.mendable(0), 0);
    }

    private static void withPages() {
        SpanKinds x = of("space 6;default back;span 0 15 thru;span 16 23 prot;span 48 63 back;");
        due("page 0 by its kind, page 1 by a block", x.withPages(0), 1);
        due("pages of their own", x.withPages(1), 1);
        due("withPages", x.withPages(2), -1);
        due("withPages", x.withPages(-1), -1);
    }

    private static void pagedPlan() {
        SpanKinds x = of("space 6;default back;span 0 15 thru;span 16 23 prot;");
        due("blocks", x.pagedPlan(-1, 5), 1);
        due("base", x.pagedPlan(0, 0), 16);
        due("size", x.pagedPlan(0, 1), 8);
        due("kind", x.pagedPlan(0, 2), 3);
        due("pagedPlan", x.pagedPlan(0, 3), -1);
        due("pagedPlan", x.pagedPlan(1, 0), -1);
        due("pagedPlan", x.pagedPlan(-2, 0), -1);
        SpanKinds y = of("space 5;span 0 31 back;span 8 15 thru;");
        due("the whole, then a block in page 0", y.pagedPlan(-1, 0), 2);
        due("the whole", y.pagedPlan(0, 1), 32);
        due("the second", y.pagedPlan(1, 0), 8);
        SpanKinds z = of("space 5;span 0 31 thru;span 0 7 comb;span 16 23 none;");
        due("both pages by blocks in the whole", z.pagedPlan(-1, 0), 3);
        due("each for itself first", z.pagedPlan(0, 0), 0);
    }

    private static void pageFor() {
        SpanKinds x = of("space 6;default back;span 0 15 thru;span 16 23 prot;span 32 47 none;");
        due("pageFor", x.pageFor(0), 2);
        due("pageFor", x.pageFor(1), 5);
        due("pageFor", x.pageFor(2), 0);
        due("pageFor", x.pageFor(3), 5);
        due("pageFor", x.pageFor(4), -1);
        due("pageFor", x.pageFor(-1), -1);
        SpanKinds y = of("space 5;default back;fixed 4" + times(" none", 8) + ";span 0 31 comb;");
        due("a page that is fixed", y.pageFor(0), 5);
        due("the other", y.pageFor(1), 1);
    }

    private static void wrong() {
        SpanKinds x = of("space 5;fixed 4 none none comb comb none none none none;span 0 1 comb;span 20 23 back;"
            + "reg 20 2 back;reg 16 8 comb;");
        due("16 to 19 are comb, 20 and 21 clash, 22 and 23 are comb", x.wrong(0), 8);
        due("wrong", x.wrong(1), 16);
        due("clashes", x.wrong(2), 2);
        due("fixed ones", x.wrong(3), 6);
        due("wrong", x.wrong(4), -1);
        due("wrong", x.wrong(-1), -1);
        SpanKinds y = of("space 4;fixed 4" + times(" comb", 8) + ";");
        due("all is fixed", y.wrong(0), 0);
        due("none is first", y.wrong(1), -1);
        due("fixed ones", y.wrong(3), 16);
    }

    private static void cost() {
        SpanKinds x = of("space 4;span 0 15 back;span 6 6 thru;");
        due("side by side: 8, 1 and 8 less 1", x.cost(0), 5);
        due("over one another", x.cost(1), 2);
        due("cost", x.cost(2), -1);
        due("cost", x.cost(-1), -1);
        SpanKinds y = of("space 5;fixed 4" + times(" comb", 8) + ";span 0 15 prot;span 16 31 back;");
        due("no matter what fixed ones are", y.cost(0), 1);
        due("no matter what fixed ones are", y.cost(1), 1);
        SpanKinds z = of("space 4;fixed 4" + times(" comb", 8) + ";span 0 3 prot;");
        due("all is fixed", z.cost(0) + z.cost(1), 0);
        due("the default costs nothing", of("default back;span 3 9 back;").cost(1), 0);
    }

    private static void plan() {
        SpanKinds x = of("space 4;span 0 15 back;span 2 3 none;span 8 15 thru;span 14 14 none;");
        // 0 to 7 is two blocks in either way: halves come first; 8 to 15 is three by halves
        int[][] due = {{0, 2, 4}, {4, 4, 4}, {8, 8, 2}, {14, 1, 0}};
        due("plan", x.plan(-1, 9), 4);
        for (int i = 0; i < 4; i++) {
            for (int what = 0; what < 3; what++) {
                due("plan(" + i + ", " + what + ")", x.plan(i, what), due[i][what]);
            }
        }
        due("plan", x.plan(4, 0), -1);
        due("plan", x.plan(-2, 0), -1);
        due("plan", x.plan(0, 3), -1);
        due("plan", x.plan(0, -1), -1);
    }

    private static void byDefault() {
        SpanKinds x = of("space 4;span 0 7 back;span 8 11 thru;");
        int[] due = {2, 2, 1, 2, 1};
        for (int k = 0; k < 5; k++) {
            due("byDefault " + k, x.byDefault(k), due[k]);
        }
        due("byDefault", x.byDefault(5), -1);
        due("byDefault", x.byDefault(-1), -1);
        due("nothing is done", x.about(3), 0);
        due("no act", x.about(7), 0);
        due("the plan is as it was", x.plan(-1, 0), 2);
    }

    private static void bestDefault() {
        due("of like ones the least", of("span 0 255 back;").bestDefault(), 4);
        due("of like ones the least", new SpanKinds().bestDefault(), 0);
        due("thru ahead of back", of("space 4;span 0 7 back;span 8 11 thru;").bestDefault(), 2);
        due("back", of("space 4;span 0 3 back;span 12 15 back;span 5 5 thru;").bestDefault(), 4);
        due("thru and prot alike", of("space 4;span 0 7 prot;span 8 15 thru;").bestDefault(), 2);
    }

    private static void most() {
        SpanKinds x = of("space 4;span 0 7 back;span 3 3 comb;span 12 15 thru;");
        int[] due = {4, 11, 15, 15, 15, 16};
        for (int r = 0; r < due.length; r++) {
            due("most " + r, x.most(r), due[r]);
        }
        due("most", x.most(10), 16);
        due("most", x.most(11), -1);
        due("most", x.most(-1), -1);
        SpanKinds y = of("space 4;fixed 3" + times(" none", 8) + ";span 0 15 back;");
        due("fixed ones do not count", y.most(0), 0);
        due("fixed ones do not count", y.most(1), 8);
    }

    private static void bestSet() {
        SpanKinds x = of("space 4;span 0 7 back;");
        due("none", x.bestSet(0, -1, 0), 0);
        due("one", x.bestSet(1, -1, 0), 1);
        due("one", x.bestSet(1, 0, 0) * 100 + x.bestSet(1, 0, 1) * 10 + x.bestSet(1, 0, 2), 84);
        due("one is enough", x.bestSet(2, -1, 9), 1);
        due("one for each half", x.bestSet(2, 0, 1), 8);
        x.span(0, 15, 4);
        due("with one the whole", x.bestSet(1, 0, 1), 16);
        due("with two the halves come first", x.bestSet(2, -1, 9), 2);
        due("lower", x.bestSet(2, 0, 0) * 100 + x.bestSet(2, 0, 1) * 10 + x.bestSet(2, 0, 2), 84);
        due("upper", x.bestSet(2, 1, 0) * 100 + x.bestSet(2, 1, 1) * 10 + x.bestSet(2, 1, 2), 884);
        due("with three 8, 4 and 4", x.bestSet(3, 2, 0) * 10 + x.bestSet(3, 2, 1), 124);
        due("with ten 8, 4, 2, 1 and 1", x.bestSet(10, -1, 0), 5);
        due("the last of ten", x.bestSet(10, 4, 0) * 10 + x.bestSet(10, 4, 1), 151);
        SpanKinds y = of("space 4;span 0 7 back;span 5 5 thru;span 8 15 prot;");
        due("with one the lowest of the greatest", y.bestSet(1, 0, 0) * 10 + y.bestSet(1, 0, 2), 83);
        due("with three, back", y.bestSet(3, 0, 1) * 10 + y.bestSet(3, 0, 2), 84);
        due("then thru over it", y.bestSet(3, 1, 0) * 10 + y.bestSet(3, 1, 2), 52);
        due("then prot", y.bestSet(3, 2, 0) * 10 + y.bestSet(3, 2, 2), 83);
        due("bestSet", x.bestSet(2, 2, 0), -1);
        due("bestSet", x.bestSet(2, -2, 0), -1);
        due("bestSet", x.bestSet(2, 0, 3), -1);
        due("bestSet", x.bestSet(2, 0, -1), -1);
        due("bestSet", x.bestSet(11, -1, 0), -1);
        due("bestSet", x.bestSet(-1, -1, 0), -1);
        due("nothing is done", x.about(2), 0);
    }

    private static void idle() {
        SpanKinds x = of("space 4;default none;reg 0 8 back;reg 0 4 back;reg 8 8 none;reg 4 4 thru;reg 4 2 back;");
        due("the same kind lies over it", x.idle(1), 1);
        due("the default's kind", x.idle(2), 1);
        due("back over thru is thru", x.idle(4), 1);
        due("thru over back", x.idle(3), 0);
        due("the great one: 0 to 3 by the other, 4 to 7 thru", x.idle(0), 1);
        due("empty", x.idle(5), -1);
        due("none such", x.idle(8), -1);
        due("none such", x.idle(-1), -1);
        SpanKinds y = of("space 4;fixed 3" + times(" none", 8) + ";reg 0 8 back;");
        due("over fixed ones alone", y.idle(0), 1);
    }

    private static void without() {
        SpanKinds x = of("space 4;span 0 3 back;reg 0 16 back;reg 8 4 none;reg 0 2 comb;");
        due("0 to 3 less, 12 to 15 and 4 to 7 more", x.without(0), 6);
        due("8 to 11 would be back", x.without(1), -4);
        due("0 and 1 clash", x.without(2), 2);
        due("empty", x.without(3), -2000);
        due("none such", x.without(8), -2000);
        due("none such", x.without(-1), -2000);
    }

    private static void besides() {
        SpanKinds x = of("space 4;span 4 7 back;span 12 15 back;");
        due("four", x.besides(4, 4, 0), 4);
        due("at", x.besides(4, 4, 1), 4);
        due("eight: four right, four wrong", x.besides(8, 4, 0), 0);
        due("the least of like ones", x.besides(8, 4, 1), 0);
        due("below 0", x.besides(16, 3, 0), -8);
        x.set(0, 4, 4, 4);
        due("the block of a register is none", x.besides(4, 4, 1), 12);
        x.set(1, 0, 16, 1);
        due("all of that size are taken", x.besides(16, 4, 0), -2000);
        due("all of that size are taken", x.besides(16, 4, 1), -2000);
        int[][] bad = {{3, 0, 0}, {0, 0, 0}, {32, 0, 0}, {-4, 0, 0}, {4, 5, 0}, {4, -1, 0}, {4, 0, 2}, {4, 0, -1}};
        for (int[] b : bad) {
            due("besides that can't be", x.besides(b[0], b[1], b[2]), -2000);
        }
        SpanKinds y = of("space 4;registers 1;reg 0 1 none;fixed 3" + times(" none", 8) + ";span 0 15 back;");
        due("no empty register, fixed ones as they are", y.besides(16, 4, 0), 8);
        SpanKinds z = of("space 4;reg 0 16 back;span 0 7 back;span 8 15 thru;");
        due("over what there is", z.besides(8, 2, 0), 8);
        due("back over back changes nothing", z.besides(8, 4, 0), 0);
    }

    private static void change() {
        SpanKinds x = of("space 4;registers 2;span 0 3 back;span 4 7 thru;reg 0 8 back;reg 8 8 none;");
        due("side by side comes first", x.plan(0, 1), 4);
        due("steps", x.change(0), 4);
        due("goes", x.change(1), 2);
        due("safe", x.change(2), 1);
        due("change", x.change(3), -1);
        due("change", x.change(-1), -1);
        SpanKinds y = of("space 4;registers 1;span 0 3 back;span 4 4 comb;reg 0 8 prot;");
        due("steps", y.change(0), 3);
        due("goes", y.change(1), 1);
        due("registers do not do", y.change(2), -1);
        SpanKinds z = of("space 4;registers 1;default back;span 0 3 none;reg 0 8 none;");
        due("no safe order", z.change(2), 0);
        SpanKinds w = of("space 6;registers 8;default comb;" + "span 0 0 back;span 2 2 back;span 4 4 back;"
            + "span 6 6 back;span 8 8 back;span 10 10 back;span 12 12 back;");
        for (int i = 0; i < 5; i++) {
            w.set(i, 32 + 2 * i, 1, 0);
        }
        due("twelve steps", w.change(0), 12);
        due("some order", w.change(2) >= 0, true);
        w.set(5, 32 + 10, 1, 0);
        due("thirteen steps", w.change(0), 13);
        due("too many", w.change(2), -1);
        due("too many", w.order(0), -1);
    }

    private static void order() {
        SpanKinds x = of("space 4;registers 3;default back;span 0 3 none;span 8 11 prot;reg 0 8 none;reg 8 4 prot;");
        due("8 4 prot stays", x.change(0), 2);
        due("none comes ahead", x.order(0), 1);
        due("then the old one goes", x.order(1), 0);
        due("order", x.order(2), -1);
        due("order", x.order(-1), -1);
        SpanKinds z = of("space 4;registers 1;default back;span 0 3 none;reg 0 8 none;");
        due("no safe order", z.order(0), -1);
        SpanKinds y = of("space 4;registers 2;default comb;span 0 7 prot;reg 0 8 thru;");
        due("the same block of another kind goes first: comb is neither", y.change(2), 0);
        SpanKinds w = of("space 4;registers 2;default comb;span 0 7 none;reg 0 8 thru;");
        due("of a kind 0 it may come ahead", w.order(0) * 10 + w.order(1), 10);
    }

    private static void stir() {
        SpanKinds x = of("space 4;registers 3;default back;span 0 3 none;reg 0 8 none;");
        due("it was none", x.stir(0), 0);
        due("4 to 7 are back then", x.stir(1), 4);
        due("stir", x.stir(2), -1);
        due("stir", x.stir(-1), -1);
        SpanKinds y = of("space 4;fixed 3" + times(" none", 8) + ";reg 0 16 back;");
        due("fixed ones are not stirred", y.stir(0), 8);
        SpanKinds z = of("space 4;registers 4;span 0 3 back;span 8 11 comb;span 12 12 prot;reg 0 4 back;reg 14 2 thru;");
        due("one stays", z.change(0), 3);
        int[] due = {2, 4, 1};
        for (int i = 0; i < 3; i++) {
            due("order", z.order(i), i);
            due("stir", z.stir(i), due[i]);
        }
    }

    private static void block() {
        SpanKinds x = of("space 5;fixed 3" + times(" none", 8) + ";span 3 20 comb;span 24 31 comb;");
        due("size", x.block(1, 0), 8);
        due("base", x.block(1, 1), 8);
        due("none", x.block(0, 0) * 100 + x.block(0, 1), 200);
        due("there is none", x.block(4, 0), -1);
        due("no such kind", x.block(5, 0), -1);
        due("no such kind", x.block(-1, 0), -1);
        due("block", x.block(1, 2), -1);
        due("block", x.block(1, -1), -1);
    }

    private static void bits() {
        SpanKinds x = of("space 4;fixed 3 comb" + times(" none", 6) + " comb;reg 8 4 comb;reg 8 1 prot;span 0 15 back;");
        due("0, 7, 9, 10, 11", x.bits(1), 3 + 2 + 2 + 3);
        due("8 clashes", x.bits(5), 1);
        due("the others: 1 to 6, 12 to 15", x.bits(0), 9 + 2 + 3 + 3 + 4);
        due("none is", x.bits(4), 0);
        due("bits", x.bits(6), -1);
        due("bits", x.bits(-1), -1);
        due("all", of("space 10;").bits(0), 5120);
    }

    private static void image() {
        SpanKinds x = of("space 4;span 0 3 back;");
        due("image", x.image(2), -1);
        due("image", x.image(-1), -1);
        due("image", x.image(0), 1);
        due("no act", x.about(7), 0);
        x.span(4, 7, 1);
        due("image", x.image(1), 2);
        due("image over another", x.image(0), 2);
        x.undo();
        due("undo leaves boxes alone", x.differs(0, 1), 4);
    }

    private static void differs() {
        SpanKinds x = of("space 4;span 0 3 back;reg 4 4 comb;fixed 3" + times(" none", 8) + ";");
        due("nothing kept", x.differs(0, 0), -1);
        x.image(1);
        due("differs", x.differs(1, 0), 0);
        due("differs", x.differs(1, 2), -2);
        x.set(1, 8, 8, 4);
        x.span(2, 5, 3);
        x.fix(7, 1);
        due("kinds", x.differs(1, 0), 9);
        due("wanted", x.differs(1, 1), 4);
        due("first", x.differs(1, 2), 7);
        x.prefer(4);
        due("wanted by the default", x.differs(1, 1), 14);
        due("differs", x.differs(1, 3), -1);
        due("differs", x.differs(1, -1), -1);
        due("differs", x.differs(0, 0), -1);
        due("differs", x.differs(2, 0), -1);
        due("differs", x.differs(-1, 0), -1);
    }

    private static void back() {
        SpanKinds x = of("space 4;span 0 3 back;reg 4 4 comb;page 0 thru;fixed 3" + times(" none", 8) + ";");
        due("back", x.back(0), -1);
        x.image(0);
        x.span(1, 1, 1);
        x.clear(0);
        x.page(0, 5);
        x.prefer(3);
        x.fix(1, 1);
        x.undo();
        x.feed(0, 0, 0, 0, 0);
        due("back", x.back(1), -1);
        due("back", x.back(2), -1);
        due("back", x.back(-1), -1);
        due("acts", x.about(7), 4);
        due("back", x.back(0), 1);
        due("nothing to be taken back", x.undo(), false);
        due("nothing to be done again", x.redo(), false);
        due("register", x.register(0, 2), 1);
        due("paged", x.paged(0), 2);
        due("default", x.about(3), 0);
        due("part", x.part(1), 0);
        due("the tape stays", x.about(9), 20);
        x.drop(0);
        due("the box stays", x.back(0), 1);
    }

    private static void about() {
        SpanKinds x = of("space 6;registers 3;default prot;fixed 4" + times(" none", 8) + ";reg 0 16 none;"
            + "reg 0 8 comb;page 3 none;page 0 back;span 3 5 none;");
        x.prefer(2);
        x.prefer(1);
        x.undo();
        x.feed(0, 0, 0, 0, 0);
        x.end(7);
        int[] due = {64, 3, 2, 2, 1, 16, 3, 1, 1, 7, 4, 2};
        for (int i = 0; i < due.length; i++) {
            due("about(" + i + ")", x.about(i), due[i]);
        }
        due("about", x.about(12), -1);
        due("about", x.about(-1), -1);
        due("about", x.about(Integer.MAX_VALUE), -1);
    }

    /** As many addresses, registers, pages, spans and runs as there can be. */
    private static SpanKinds crowded() {
        StringBuilder text = new StringBuilder("space 10;registers 10;");
        for (int i = 0; i < 12; i++) {
            text.append("span ").append(80 * i + 1).append(' ').append(80 * i + 5).append(" comb;");
        }
        for (int i = 0; i < 10; i++) {
            text.append("reg ").append(80 * i).append(" 16 comb;");
        }
        SpanKinds x = of(text.toString());
        for (int i = 0; i < 64; i++) {
            due("page", x.page(i, 1), 5);
        }
        return x;
    }

    private static void limits() {
        SpanKinds x = crowded();
        int[] due = {1024, 10, 10, 0, 12, 0, 25, 16, 0, 0, 64, 64};
        for (int i = 0; i < due.length; i++) {
            due("about(" + i + ")", x.about(i), due[i]);
        }
        due("the last run", x.run(24, 0) * 10 + x.run(24, 2), 8860);
        due("its last address", x.run(24, 1), 1023);
        due("side by side", x.cost(0), 36);
        due("over one another", x.cost(1), 36);
        due("the last of the plan", x.plan(35, 0) * 10 + x.plan(35, 1), 8842);
        due("with pages", x.withPages(0), 36);
        due("lay", x.lay(), -1);
        due("layAll", x.layAll(), -1);
        due("steps", x.change(0), 46);
        due("too many", x.change(2), -1);
        due("wrong", x.wrong(0), 120);
        due("strange", x.strange(0), 120);
        due("the best default: nothing to lay", x.bestDefault(), 1);
        due("besides the rest of page 50", x.besides(4, 1, 0) * 1000 + x.besides(4, 1, 1), 2800);
        due("the greatest block", x.block(0, 0) * 1000 + x.block(0, 1), 128896);
        due("mend: all but twelve", x.mend(), 52);
        due("image", x.image(1), 12);
        due("tidy", x.tidy(), 12);
        for (int i = 11; i >= 3; i--) {
            due("drop", x.drop(i), i);
        }
        due("span", x.span(1023, 1023, 1), 3);
        due("lay", x.lay(), 10);
        due("the last register", x.register(9, 0), 1023);
        due("no steps", x.change(0) * 10 + x.change(2), 1);
        due("most", x.most(9) * 10000 + x.most(10), 10231024);
        due("bestSet", x.bestSet(10, -1, 0) * 10000 + x.bestSet(10, 9, 0), 101023);
        due("idle", x.idle(9), 0);
        due("without", x.without(9), -1);
        due("besides", x.besides(1, 1, 1), 2);
        due("differs: 11 of 3, 16 of 7, the last", x.differs(1, 0), 33 + 112 + 1);
        due("differs: nine spans and the last", x.differs(1, 1), 46);
        due("differs", x.differs(1, 2), 0);
        due("clear", x.clear(9), true);
        due("one comes", x.order(0) * 10 + x.stir(0), 1);
        due("layAll", x.layAll(), 10);
        due("back", x.back(1), 12);
    }

    private static void look(int number) {
        at("promise " + number);
        switch (number) {
            case 1 -> newObject();
            case 2 -> feed();
            case 3 -> end();
            case 4 -> store();
            case 5 -> fault();
            case 6 -> span();
            case 7 -> drop();
            case 8 -> prefer();
            case 9 -> fix();
            case 10 -> set();
            case 11 -> clear();
            case 12 -> lay();
            case 13 -> page();
            case 14 -> mend();
            case 15 -> layAll();
            case 16 -> {
                tidy();
                tidyMany();
            }
            case 17 -> undo();
            case 18 -> {
                redo();
                foundAnew();
            }
            case 19 -> told();
            case 20 -> register();
            case 21 -> part();
            case 22 -> wanted();
            case 23 -> kind();
            case 24 -> run();
            case 25 -> paged();
            case 26 -> seen();
            case 27 -> strange();
            case 28 -> mendable();
            case 29 -> withPages();
            case 30 -> pagedPlan();
            case 31 -> pageFor();
            case 32 -> wrong();
            case 33 -> cost();
            case 34 -> plan();
            case 35 -> byDefault();
            case 36 -> bestDefault();
            case 37 -> most();
            case 38 -> bestSet();
            case 39 -> idle();
            case 40 -> without();
            case 41 -> besides();
            case 42 -> change();
            case 43 -> order();
            case 44 -> stir();
            case 45 -> block();
            case 46 -> bits();
            case 47 -> image();
            case 48 -> differs();
            case 49 -> back();
            default -> {
                about();
                limits();
            }
        }
    }

    public static void main(String[] args) {
        for (int i = 1; i <= 50; i++) {
            int before = looked();
            look(i);
            if (looked() == before) {
                fail("there is no test");
            }
        }
        finish();
    }
}
