import java.util.function.Consumer;

/** The least and the greatest, none at all and all that there can be, of each term and each promise. */
public final class EdgesTest extends Bench {
    private static final String FIXED_NONE = times(" none", 8) + ";";
    private static final String[] KINDS = {"none", "comb", "thru", "prot", "back"};

    /** Base, size and KIND of each, one behind another. */
    private static String plan(SpanKinds x) {
        StringBuilder all = new StringBuilder();
        for (int i = 0; i < x.plan(-1, 0); i++) {
            all.append(x.plan(i, 0)).append(' ').append(x.plan(i, 1)).append(' ').append(x.plan(i, 2)).append("; ");
        }
        return all.toString().trim();
    }

    private static String pagedPlan(SpanKinds x) {
        StringBuilder all = new StringBuilder();
        for (int i = 0; i < x.pagedPlan(-1, 0); i++) {
            all.append(x.pagedPlan(i, 0)).append(' ').append(x.pagedPlan(i, 1)).append(' ').append(x.pagedPlan(i, 2)).append("; ");
        }
        return all.toString().trim();
    }

    private static String bestSet(SpanKinds x, int r) {
        StringBuilder all = new StringBuilder();
        for (int i = 0; i < x.bestSet(r, -1, 0); i++) {
            all.append(x.bestSet(r, i, 0)).append(' ').append(x.bestSet(r, i, 1)).append(' ').append(x.bestSet(r, i, 2)).append("; ");
        }
        return all.toString().trim();
    }

    private static String registers(SpanKinds x) {
        StringBuilder all = new StringBuilder();
        for (int i = 0; i < x.about(1); i++) {
            all.append(x.register(i, 0)).append(' ').append(x.register(i, 1)).append(' ').append(x.register(i, 2)).append("; ");
        }
        return all.toString().trim();
    }

    private static String order(SpanKinds x) {
        StringBuilder all = new StringBuilder();
        for (int i = 0; i < 13; i++) {
            all.append(x.order(i)).append('/').append(x.stir(i)).append(' ');
        }
        return all.toString().replace("-1/-1 ", "").trim();
    }

    private static void wantedAndRuns() {
        at("WANTED: the KIND of the SPAN told last that has it");
        SpanKinds x = of("space 4;default comb;span 0 15 back;span 3 12 thru;span 5 5 none;");
        int[] due = {4, 4, 4, 2, 2, 0, 2, 2, 2, 2, 2, 2, 2, 4, 4, 4};
        for (int i = 0; i < 16; i++) {
            due("wanted " + i, x.wanted(i), due[i]);
        }
        x.drop(2);
        due("the one under it", x.wanted(5), 2);
        x.drop(0);
        due("of none: DEFAULT", x.wanted(0) * 10 + x.wanted(15), 11);
        x.span(0, 0, 3);
        x.span(15, 15, 3);
        due("the first and the last", x.wanted(0) * 100 + x.wanted(1) * 10 + x.wanted(15), 313);
        at("RUNS: as many as there are of one WANTED");
        due("one", of("default back;span 0 255 back;span 17 18 back;").about(6), 1);
        due("one over all", of("span 0 127 thru;span 128 255 thru;").run(0, 1), 255);
        x = of("space 4;span 0 0 comb;span 15 15 comb;");
        due("runs of one ADDRESS", x.run(-1, 0), 3);
        due("the first", x.run(0, 0) * 100 + x.run(0, 1) * 10 + x.run(0, 2), 1);
        due("the last", x.run(2, 0) * 100 + x.run(2, 1) * 10 + x.run(2, 2), 1500 + 150 + 1);
        due("between", x.run(1, 0) * 100 + x.run(1, 1) * 10 + x.run(1, 2), 100 + 140);
        x = of("space 10;");
        for (int i = 0; i < 12; i++) {
            x.span(80 * i + 1, 80 * i + 1, 1 + i % 4);
        }
        due("the most", x.about(6), 25);
        due("the last of them", x.run(24, 0) * 10000 + x.run(24, 1), 8821023);
        x = of("space 4;span 0 15 comb;span 8 15 comb;");
        x.span(4, 7, 1);
        due("a span that changes nothing cuts nothing", x.run(-1, 0) * 100 + x.run(0, 1), 115);
    }

    private static void fixedParts() {
        at("the first 2 to the power of N ADDRESSES are FIXED, in 8 PARTS of as many each");
        for (int power = 3; power <= 10; power++) {
            SpanKinds x = of("space 10;default thru;fixed " + power + " none comb thru prot back none comb prot;reg 0 1024 back;");
            int each = (1 << power) / 8;
            int[] due = {0, 1, 2, 3, 4, 0, 1, 3};
            for (int part = 0; part < 8; part++) {
                due("its first", x.kind(part * each), due[part]);
                due("its last", x.kind(part * each + each - 1), due[part]);
            }
            due("behind all", x.kind(8 * each), power == 10 ? -1 : 4);
            due("about(5)", x.about(5), 8 * each);
        }
        at("whatever REGISTERS say");
        SpanKinds x = of("space 4;fixed 3" + times(" prot", 8) + ";reg 0 8 none;reg 0 16 comb;reg 7 1 back;reg 8 1 none;");
        due("the last that is", x.kind(7), 3);
        due("the first that is not", x.kind(8), 0);
        due("behind it", x.kind(9), 1);
        due("no clash there", x.wrong(2), 0);
    }

    private static void together() {
        at("TOGETHER");
        SpanKinds x = of("space 4;registers 5;");
        int[] clashing = {0, 0, 0, 0, 0};
        for (int set = 0; set < 32; set++) {
            for (int preferred = 0; preferred < 5; preferred++) {
                x = of("space 4;registers 5;default " + KINDS[preferred] + ";");
                for (int kind = 0; kind < 5; kind++) {
                    if ((set >> kind & 1) != 0) {
                        x.set(kind, 0, 1 << (kind + preferred) % 5, kind);
                    }
                }
                int due = set == 0 ? preferred : set % 2 == 1 ? 0 : set == 2 ? 1 : set == 4 || set == 20 ? 2 : set == 8 ? 3
                    : set == 16 ? 4 : 5;
                due("set " + set + ", default " + preferred, x.kind(0), due);
                clashing[preferred] += due == 5 ? 1 : 0;
            }
        }
        due("sets that clash", clashing[0] * 10 + clashing[4], 10 * 10 + 10);
        x = of("space 4;registers 10;reg 0 16 prot;reg 0 8 prot;reg 0 4 prot;reg 0 2 prot;reg 0 1 prot;reg 15 1 prot;");
        due("one KIND of many", x.kind(0) * 10 + x.kind(15), 33);
    }

    private static void plans() {
        at("if all ADDRESSES of B that are not FIXED are RIGHT by that, nothing more is laid");
        due("nothing wanted", plan(new SpanKinds()), "");
        due("the default wanted", plan(of("default thru;span 3 9 thru;")), "");
        due("all FIXED", plan(of("space 4;fixed 4" + FIXED_NONE + "span 0 15 back;")), "");
        due("FIXED ones alone", plan(of("space 5;fixed 4" + FIXED_NONE + "span 0 15 back;")), "");
        at("both halves of B, each for itself, the lower first");
        due("halves as few as the whole", plan(of("space 5;fixed 4" + FIXED_NONE + "span 0 31 back;")), "16 16 4;");
        due("one ADDRESS that is not FIXED", plan(of("space 4;fixed 3" + FIXED_NONE + "span 8 8 comb;")), "8 1 1;");
        due("halves as few as one over one", plan(of("space 4;span 0 15 back;span 8 15 thru;")), "0 8 4; 8 8 2;");
        due("lower first", plan(of("space 4;span 15 15 back;span 0 0 thru;")), "0 1 2; 15 1 4;");
        at("B itself with KIND 0, 1, 2, 3, 4");
        for (int kind = 1; kind < 5; kind++) {
            due("all of SPACE", plan(of("space 10;span 0 1023 " + KINDS[kind] + ";")), "0 1024 " + kind + ";");
            due("the last ADDRESS", plan(of("space 10;span 1023 1023 " + KINDS[kind] + ";")), "1023 1 " + kind + ";");
            due("the first ADDRESS", plan(of("space 10;span 0 0 " + KINDS[kind] + ";")), "0 1 " + kind + ";");
        }
        at("where what it has from above and that go TOGETHER and make another thing");
        for (int kind = 1; kind < 5; kind++) {
            String other = kind == 1 ? "prot" : "comb";
            due("0 over " + kind, plan(of("space 4;default " + other + ";span 0 15 " + KINDS[kind] + ";span 7 7 none;")),
                "0 16 " + kind + "; 7 1 0;");
        }
        due("2 over 4", plan(of("space 4;span 0 15 back;span 7 7 thru;")), "0 16 4; 7 1 2;");
        due("4 not over 2", plan(of("space 4;span 0 15 thru;span 7 7 back;")), "0 4 2; 4 2 2; 6 1 2; 7 1 4; 8 8 2;");
        due("1 not over 4", plan(of("space 4;span 0 15 back;span 7 7 comb;")), "0 4 4; 4 2 4; 6 1 4; 7 1 1; 8 8 4;");
        due("0 over 2 over 4", plan(of("space 4;default comb;span 0 15 back;span 4 7 thru;span 5 5 none;")),
            "0 16 4; 4 4 2; 5 1 0;");
        for (int a = 1; a < 5; a++) {
            for (int b = 1; b < 5; b++) {
                if (a != b && !(a == 4 && b == 2)) {
                    String other = a != 1 && b != 1 ? "comb" : a != 3 && b != 3 ? "prot" : "thru";
                    String text = "space 4;default " + other + ";span 0 15 " + KINDS[a] + ";span 7 7 " + KINDS[b] + ";";
                    boolean isOther = KINDS[b].equals(other);
                    due(b + " not over " + a, of(text).cost(1), isOther ? 4 : 5);
                    due(b + " not over " + a, of(text).most(2), 15);
                }
            }
        }
        at("LEAST, ADDED");
        SpanKinds x = of("space 10;default comb;span 0 1023 back;span 511 511 none;");
        due("side by side", x.cost(0), 1 + 9 + 1);
        due("over one another", x.cost(1), 2);
        due("the other way round", of("space 10;default comb;span 0 1023 none;span 511 511 back;").cost(1), 11);
    }

    private static void most() {
        at("promise 37: with r blocks (0 .. 10)");
        SpanKinds x = of("space 4;fixed 4" + FIXED_NONE + "span 0 15 back;");
        SpanKinds y = of("space 10;span 0 1023 back;");
        SpanKinds z = new SpanKinds();
        SpanKinds w = of("space 5;span 1 1 comb;span 3 3 comb;span 5 5 comb;span 7 7 comb;span 9 9 comb;span 11 11 comb;"
            + "span 13 13 comb;span 15 15 comb;span 17 17 comb;span 19 19 comb;span 21 21 comb;span 23 23 comb;");
        for (int r = 0; r <= 10; r++) {
            due("all FIXED", x.most(r), 0);
            due("all FIXED", x.bestSet(r, -1, 0), 0);
            due("one block for all", y.most(r), r == 0 ? 0 : 1024);
            due("none needed", z.most(r) * 10 + z.bestSet(r, -1, 0), 2560);
            due("one each", w.most(r), 20 + r);
            due("one each", w.bestSet(r, -1, 0), r);
        }
        at("promise 38: the BEST SET");
        due("none may be laid", bestSet(y, 0), "");
        due("one", bestSet(y, 1), "0 1024 4;");
        due("halves come first", bestSet(y, 2), "0 512 4; 512 512 4;");
        due("as many as there are", bestSet(y, 10), "0 512 4; 512 256 4; 768 128 4; 896 64 4; 960 32 4; 992 16 4; 1008 8 4; "
            + "1016 4 4; 1020 2 4; 1022 2 4;");
        due("no more than can be of use", bestSet(of("space 4;span 14 15 back;"), 10), "14 1 4; 15 1 4;");
        due("with 0 for the lower half", bestSet(of("space 4;span 0 3 back;span 8 11 back;"), 1), "8 4 4;");
        for (int r = 1; r <= 10; r++) {
            for (int kind = 0; kind < 20; kind++) {
                int other = (kind + 1 + kind / 5) % 5;
                x = of("space 4;default " + KINDS[kind % 5] + ";span 15 15 " + KINDS[other] + ";");
                due("B of one ADDRESS", bestSet(x, r), "15 1 " + other + ";");
            }
        }
        x = of("space 4;span 14 14 comb;span 15 15 prot;");
        for (int r = 2; r <= 10; r++) {
            due("two of one ADDRESS each, some left", bestSet(x, r), "14 1 1; 15 1 3;");
        }
        x = of("space 4;default comb;span 0 15 back;span 9 9 thru;");
        due("thru of one ADDRESS over back", bestSet(x, 3), "0 8 4; 8 8 4; 9 1 2;");
        due("and halves between", bestSet(x, 4), "0 8 4; 8 4 4; 9 1 2; 12 4 4;");
        due("KIND 0 ahead of others", bestSet(of("space 4;default back;span 0 7 none;span 8 15 comb;"), 1), "8 8 1;");
        due("both wanted of a half", bestSet(of("space 4;default back;span 0 3 none;span 4 7 comb;fixed 3" + FIXED_NONE), 1), "");
        due("KIND 0", bestSet(of("space 4;default back;span 0 7 none;"), 1), "0 8 0;");
        due("KIND 0 for all", bestSet(of("space 4;default back;span 0 15 none;"), 1), "0 16 0;");
        for (int kind = 1; kind < 5; kind++) {
            x = of("space 4;default " + KINDS[5 - kind] + ";span 0 15 " + KINDS[kind] + ";span 9 9 none;");
            due("KIND 0 over another", bestSet(x, 2), "0 16 " + kind + "; 9 1 0;");
            due("all RIGHT by it", x.most(2) * 100 + x.most(1), 1615);
        }
        x = of("space 6;default prot;span 0 63 back;span 0 3 prot;span 4 7 thru;");
        due("thru over back, next to what is wrong by it", bestSet(x, 2), "0 64 4; 4 4 2;");
        due("of KINDS that are as good the least",
            bestSet(of("space 4;default back;span 0 15 comb;span 0 3 none;span 8 11 none;"), 1), "0 16 0;");
        due("nothing goes over KIND 0", bestSet(of("space 4;default back;span 0 15 none;span 9 9 comb;"), 1), "0 16 0;");
        due("halves are no worse", bestSet(of("space 4;default back;span 0 15 none;span 9 9 comb;"), 2), "0 8 0; 8 8 0;");
        due("one less behind B", bestSet(of("space 4;span 0 15 back;span 3 3 thru;span 6 6 thru;span 13 13 thru;"), 2),
            "0 16 4; 13 1 2;");
        x = of("space 4;default back;span 0 15 comb;span 2 3 none;span 4 7 thru;span 12 15 thru;");
        due("comb would need one more to be as good", bestSet(x, 1), "0 16 2;");
        due("with one more none is taken out", bestSet(x, 2), "0 16 2; 2 2 0;");
        due("B itself: halves put fewer right", bestSet(of("space 4;span 0 15 back;span 9 9 comb;"), 1), "0 16 4;");
    }

    private static void seenAndPages() {
        at("its PAGE (of 16 ADDRESSES each)");
        SpanKinds x = of("space 10;default back;page 0 none;page 1 comb;page 62 thru;page 63 prot;");
        due("the ends of page 0", x.seen(0) * 10 + x.seen(15), 0);
        due("the ends of page 1", x.seen(16) * 10 + x.seen(31), 11);
        due("page 2", x.seen(32), 4);
        due("the ends of page 62", x.seen(992) * 10 + x.seen(1007), 22);
        due("the ends of page 63", x.seen(1008) * 10 + x.seen(1023), 33);
        due("strange", x.strange(0) * 10 + x.strange(1), 640);
        for (int page = 0; page < 4; page++) {
            x = of("space 6;default back;page " + page + " none;");
            due("a PAGE and no more", x.strange(0) * 100 + x.strange(1), 1600 + 16 * page);
            due("mend", x.mend() * 10 + x.strange(0), 10);
        }
        at("promise 27: the first of them (1; NONE)");
        due("all", of("space 10;span 0 1023 comb;").strange(0), 1024);
        x = of("space 10;span 1023 1023 comb;");
        due("the last alone", x.strange(0) * 10000 + x.strange(1), 11023);
        x.set(0, 1023, 1, 1);
        due("none", x.strange(0) * 10 + x.strange(1), -1);
        x.set(1, 1022, 2, 3);
        due("a clash is strange", x.strange(0) * 10000 + x.strange(1), 21022);
        at("promise 28: the first of 5, 0, 1, 2, 3, 4");
        for (int want = 0; want < 5; want++) {
            for (int kind = 0; kind < 5; kind++) {
                x = of("space 4;default " + KINDS[kind] + ";span 0 15 " + KINDS[want] + ";");
                boolean can = want <= kind && !(want == 2 && kind == 3);
                int due = want == kind ? 5 : can ? want : -1;
                due("mendable of " + kind + " to " + want, x.mendable(0), due);
                due("mend", x.mend(), due == -1 || due == 5 ? 0 : 1);
                due("strange", x.strange(0), due == -1 ? 16 : 0);
            }
        }
        x = of("space 4;default thru;span 0 15 none;page 0 prot;");
        due("0 ahead of 3", x.mendable(0) * 10 + x.mend(), 1);
        x = of("space 5;span 16 31 thru;fixed 5" + FIXED_NONE);
        due("a PAGE that is FIXED", x.mendable(0) * 10 + x.mendable(1), 55);
        x = of("space 5;fixed 3" + FIXED_NONE + "span 0 7 back;reg 15 1 comb;");
        due("the last ADDRESS of a PAGE", x.mendable(0) * 10 + x.mendable(1), 5);
        at("promise 14: how many are of another one than they were");
        x = of("space 10;default back;span 0 1023 thru;");
        due("all", x.mend() * 100 + x.about(11), 6464);
        due("none", x.mend() * 100 + x.about(11), 64);
        x.prefer(2);
        due("back to none of their own", x.mend() * 100 + x.about(11), 6400);
    }

    private static void pagedPlans() {
        at("the PAGED PLAN: SPACE is one PAGE");
        SpanKinds x = of("space 4;default back;span 0 15 prot;");
        due("by its KIND", pagedPlan(x) + x.pageFor(0) + x.withPages(1), "31");
        x = of("space 4;default back;span 0 14 prot;");
        due("by blocks, as few as with prot: one over it can't be", pagedPlan(x), "0 8 3; 8 4 3; 12 2 3; 14 1 3;");
        x = of("space 4;span 0 15 back;span 8 15 thru;");
        due("of 5 the first", pagedPlan(x) + x.pageFor(0), "0 8 4; 8 8 2;5");
        at("of what is greater than a PAGE both halves come first");
        x = of("space 10;default back;");
        for (int i = 0; i < 4; i++) {
            x.span(256 * i, 256 * i + 255, i);
        }
        due("no block at all", x.withPages(0) * 100 + x.withPages(1), 64);
        for (int i = 0; i < 64; i++) {
            due("page " + i, x.pageFor(i), i / 16);
        }
        x = of("space 10;span 0 1023 back;span 0 15 thru;");
        due("the whole, and a PAGE's KIND", pagedPlan(x) + x.pageFor(0) + x.pageFor(1), "0 1024 4;25");
        x = of("space 5;span 0 31 back;");
        due("the whole", pagedPlan(x) + x.pageFor(0) + x.pageFor(1), "0 32 4;55");
        x = of("space 5;span 0 15 thru;span 16 31 prot;");
        due("the whole, seen by two KINDS", pagedPlan(x) + x.pageFor(0) + x.pageFor(1), "0 32 4;23");
        x = of("space 6;span 0 15 thru;span 16 31 prot;span 32 47 comb;");
        due("the whole, seen by four KINDS", pagedPlan(x) + x.pageFor(0) + x.pageFor(1) + x.pageFor(2) + x.pageFor(3),
            "0 64 4;2310");
        x = of("space 5;fixed 4" + FIXED_NONE + "span 0 31 back;");
        due("halves as few as the whole", pagedPlan(x) + x.pageFor(0) + x.pageFor(1), "16 16 4;55");
        at("none that is FIXED");
        x = of("space 10;fixed 10" + FIXED_NONE + "span 0 1023 back;");
        due("nothing", x.withPages(0) * 10 + x.withPages(1), 0);
        due("pages", x.pageFor(0) * 10 + x.pageFor(63), 55);
        at("promise 15: how many blocks");
        due("none", x.layAll() * 10 + x.about(2), 0);
        x = of("space 4;registers 1;default back;span 0 7 comb;span 8 15 none;reg 3 1 thru;");
        due("as many as REGISTERS", x.layAll(), 1);
        due("comb seen through, none by a block", registers(x) + x.paged(0), "8 8 0;1");
        due("strange", x.strange(0), 0);
    }

    private static void actsCount() {
        at("where they are not refused (even if nothing changes by them)");
        SpanKinds x = of("space 5;default none;fixed 3" + FIXED_NONE + "span 0 3 none;reg 0 1 none;");
        String[] names = {"span", "drop", "prefer", "fix", "set", "clear", "lay", "page", "mend", "layAll", "tidy"};
        due("span", x.span(4, 5, 0), 1);
        due("drop", x.drop(1), 1);
        due("prefer", x.prefer(0), 0);
        due("fix", x.fix(0, 0), 0);
        due("set", x.set(0, 0, 1, 0), true);
        due("clear", x.clear(0), true);
        due("lay", x.lay(), 0);
        due("page", x.page(1, 5), 5);
        due("mend", x.mend(), 0);
        due("layAll", x.layAll(), 0);
        due("tidy", x.tidy(), 0);
        due("acts", x.about(7), names.length);
        for (int i = names.length - 1; i >= 0; i--) {
            due("undo of " + names[i], x.undo(), true);
            due("left", x.about(7) * 100 + x.about(8), i * 100 + names.length - i);
        }
        due("undo", x.undo(), false);
        due("as at first", seenOf(x).replace("about 8 11", "about 8 0"),
            seenOf(of("space 5;default none;fixed 3" + FIXED_NONE + "span 0 3 none;reg 0 1 none;")));
        at("REDO (till another ACT)");
        for (int act = 0; act < names.length; act++) {
            SpanKinds y = of("space 5;fixed 3" + FIXED_NONE + "span 0 3 none;reg 0 1 none;");
            y.page(0, 4);
            y.page(1, 4);
            y.undo();
            due("one", y.about(8), 1);
            act(y, act);
            due("no more behind " + names[act], y.about(8) * 10 + y.about(7), 2);
            due("redo", y.redo(), false);
            due("the page stays", y.paged(1), 5);
        }
    }

    private static void act(SpanKinds y, int number) {
        switch (number) {
            case 0 -> y.span(4, 5, 0);
            case 1 -> y.drop(0);
            case 2 -> y.prefer(0);
            case 3 -> y.fix(0, 0);
            case 4 -> y.set(0, 0, 1, 0);
            case 5 -> y.clear(0);
            case 6 -> y.lay();
            case 7 -> y.page(1, 5);
            case 8 -> y.mend();
            case 9 -> y.layAll();
            default -> y.tidy();
        }
    }

    private static void sixteen() {
        at("16 at most are kept, the oldest go");
        for (int acts = 0; acts <= 36; acts++) {
            SpanKinds x = of("space 6;");
            for (int i = 1; i <= acts; i++) {
                x.set(0, i, 1, 1);
            }
            int kept = Math.min(16, acts);
            due("acts", x.about(7), kept);
            for (int i = 1; i <= kept; i++) {
                due("undo", x.undo(), true);
                due("where it was", x.register(0, 0), acts == i ? -1 : acts - i);
            }
            due("no more", x.undo(), false);
            due("to be done again", x.about(8), kept);
            for (int i = 1; i <= kept; i++) {
                due("redo", x.redo(), true);
                due("where it was", x.register(0, 0), acts - kept + i);
            }
            due("no more", x.redo(), false);
            due("to be taken back", x.about(7), kept);
        }
        at("16 at most are kept, some taken back between");
        SpanKinds x = of("space 6;");
        int kept = 0;
        for (int i = 1; i <= 60; i++) {
            x.set(0, i, 1, 1);
            kept = Math.min(16, kept + 1);
            if (i % 3 == 0) {
                due("undo", x.undo(), true);
                kept--;
                due("where it was", x.register(0, 0), i - 1);
            }
            due("kept", x.about(7) * 10 + x.about(8), kept * 10 + (i % 3 == 0 ? 1 : 0));
        }
    }

    private static void registersFull() {
        at("promise 12: as many as there are REGISTERS");
        SpanKinds x = of("space 6;registers 10;span 1 1 comb;span 3 3 comb;span 5 5 comb;span 7 7 comb;span 9 9 comb;"
            + "span 11 11 comb;span 13 13 comb;span 15 15 comb;span 17 17 comb;span 19 19 comb;");
        due("lay", x.lay(), 10);
        due("they are the PLAN", registers(x), plan(x));
        due("all set", x.about(2) * 10 + x.wrong(0), 100);
        x.span(0, 63, 0);
        due("lay of none", x.lay(), 0);
        due("all EMPTY", x.about(2), 0);
        x.undo();
        due("as they were", x.about(2), 10);
        at("promise 20: the last REGISTER");
        due("register", x.register(9, 0) * 100 + x.register(9, 1) * 10 + x.register(9, 2), 1911);
        due("register", x.register(10, 0), -1);
        at("promise 6: as many as there can be");
        x = new SpanKinds();
        for (int i = 0; i < 12; i++) {
            due("span", x.span(255 - i, 255, i % 5), i);
        }
        due("full", x.span(0, 0, 0), -1);
        at("promise 7: those behind it have one number less");
        for (int gone : new int[] {0, 5, 9}) {
            int next = x.told(gone + 1, 0);
            int ahead = gone == 0 ? -1 : x.told(gone - 1, 0);
            x.drop(gone);
            due("the one behind it", x.told(gone, 0), next);
            due("the one ahead of it", x.told(gone - 1, 0), ahead);
        }
        due("left", x.about(4), 9);
        int last = x.told(7, 0);
        due("the last", x.drop(8), 8);
        due("ahead of it", x.told(7, 0), last);
        due("gone", x.told(8, 0), -1);
        for (int i = 8; i < 12; i++) {
            due("span again", x.span(0, i, 1), i);
        }
        due("full again", x.span(0, 0, 0), -1);
    }

    private static void wrongOnes() {
        at("promise 32: how many, the first of them (1; NONE)");
        SpanKinds x = of("space 10;span 0 1023 comb;");
        due("all", x.wrong(0) * 10 + x.wrong(1), 10240);
        due("none clashes, none FIXED", x.wrong(2) * 10 + x.wrong(3), 0);
        x.set(0, 0, 1024, 1);
        due("none", x.wrong(0) * 10 + x.wrong(1), -1);
        x.set(1, 1023, 1, 3);
        due("the last", x.wrong(0) * 10000 + x.wrong(1), 11023);
        due("it clashes", x.wrong(2), 1);
        x.set(1, 0, 512, 3);
        x.set(2, 512, 512, 4);
        due("all clash", x.wrong(2), 1024);
        x = of("space 10;fixed 10" + FIXED_NONE + "span 0 1023 comb;reg 0 1024 comb;reg 0 1 prot;");
        due("all FIXED", x.wrong(0) * 10 + x.wrong(1), -1);
        due("all FIXED, not RIGHT", x.wrong(2) * 10000 + x.wrong(3), 1024);
        x = of("space 4;fixed 3" + FIXED_NONE + "span 7 8 comb;");
        due("the ends of FIXED", x.wrong(0) * 100 + x.wrong(1) * 10 + x.wrong(3), 181);
        at("promise 33: of an ADDED COVER, of a LEAST one");
        due("none", new SpanKinds().cost(0) * 10 + new SpanKinds().cost(1), 0);
        x = of("space 10;span 0 1023 back;");
        due("one", x.cost(0) * 10 + x.cost(1), 11);
        x = of("space 10;default comb;span 1 1022 back;");
        due("many side by side", x.cost(0), 18);
        due("as many over one another: comb is not taken out of back", x.cost(1), 18);
        x = of("space 10;default none;span 1 1022 back;");
        due("none is taken out of back", x.cost(0) * 10 + x.cost(1), 183);
    }

    private static void defaults() {
        at("promise 35: with a DEFAULT (SPANS as they are)");
        SpanKinds x = of("space 4;span 0 7 prot;");
        for (int kind = 0; kind < 5; kind++) {
            due("byDefault " + kind, x.byDefault(kind), kind == 3 ? 0 : 1);
        }
        at("promise 36: of like ones the least");
        for (int kind = 0; kind < 5; kind++) {
            due("all wanted " + kind, of("default comb;span 0 255 " + KINDS[kind] + ";").bestDefault(), kind);
            due("all FIXED", of("space 4;default comb;fixed 4" + FIXED_NONE + "span 0 15 " + KINDS[kind] + ";").bestDefault(), 0);
        }
        for (int kind = 0; kind < 5; kind++) {
            StringBuilder text = new StringBuilder("space 4;default prot;");
            for (int i = 0; i < 7; i++) {
                text.append("span ").append(2 * i).append(' ').append(2 * i).append(' ').append(KINDS[i < 5 ? i : kind]).append(';');
            }
            x = of(text.toString());
            due("three are " + kind, x.bestDefault() * 100 + x.byDefault(kind) * 10 + x.byDefault((kind + 1) % 5), kind * 100 + 46);
        }
        due("two alike", of("space 4;span 0 7 back;span 8 15 prot;").bestDefault(), 3);
        due("nothing told", of("default back;").bestDefault(), 0);
    }

    private static void anyOrder() {
        at("promises 33 to 36: in whatever order they are asked");
        SpanKinds x = of("space 4;default comb;span 0 15 back;span 6 6 thru;");
        for (int i = 0; i < 3; i++) {
            due("side by side", x.cost(0), 5);
            due("with a DEFAULT", x.byDefault(1), 2);
            due("side by side", x.cost(0), 5);
            due("the best", x.bestDefault() * 10 + x.byDefault(4), 41);
            due("side by side", x.cost(0), 5);
            due("paged", x.withPages(0), 2);
            due("side by side", x.cost(0), 5);
            due("over one another", x.cost(1), 2);
            due("the plan", plan(x), "0 16 4; 6 1 2;");
            x.prefer(i == 0 ? 3 : 1);
        }
    }

    private static void oneRegister() {
        at("promise 39: without it each ADDRESS would be of the same KIND");
        for (int kind = 0; kind < 5; kind++) {
            SpanKinds x = of("space 10;default thru;reg 0 1024 " + KINDS[kind] + ";reg 1023 1 " + KINDS[kind] + ";");
            due("as DEFAULT, or not", x.idle(0), kind == 2 ? 1 : 0);
            due("one like it lies over it", x.idle(1), 1);
        }
        SpanKinds x = of("space 4;fixed 3" + FIXED_NONE + "reg 0 8 back;reg 0 16 back;");
        due("over FIXED ones alone", x.idle(0), 1);
        due("over others, too", x.idle(1), 0);
        x = of("space 4;reg 0 16 comb;reg 0 8 prot;reg 0 4 thru;");
        due("it clashes with it, and without", x.idle(2), 1);
        due("4 to 7 would not clash", x.idle(1), 0);
        for (int size = 1; size <= 16; size *= 2) {
            for (int base = 0; base < 16; base += size) {
                x = of("space 4;default comb;reg " + base + " " + size + " thru;");
                due("nothing but it, from " + base + ", of " + size, x.idle(0) * 100 + x.without(0), size);
                x = of("space 4;default comb;reg " + base + " " + size + " comb;");
                due("as DEFAULT, from " + base + ", of " + size, x.idle(0) * 100 + x.without(0), 100);
            }
        }
        at("promise 40: how many would be RIGHT that are not, less those that would not be and are");
        x = of("space 10;reg 0 1024 comb;");
        due("all the more", x.without(0), 1024);
        x.span(0, 1023, 1);
        due("all the less", x.without(0), -1024);
        x.span(0, 511, 0);
        due("as many", x.without(0), 0);
        x.span(512, 512, 0);
        due("two more", x.without(0), 2);
        x.span(510, 513, 1);
        due("-4", x.without(0), -4);
        x.drop(3);
        x.span(511, 511, 1);
        x.drop(2);
        due("-2: one less than half", x.without(0), -2);
        x = of("space 4;fixed 4" + FIXED_NONE + "span 0 15 comb;reg 0 16 comb;");
        due("all FIXED", x.without(0) * 10 + x.idle(0), 1);
    }

    private static void besides() {
        at("promise 41: the best block of a size");
        SpanKinds x = of("space 10;span 0 1023 comb;");
        due("all the more", x.besides(1024, 1, 0), 1024);
        due("of like ones the least base", x.besides(1, 1, 0) * 10 + x.besides(1, 1, 1), 10);
        x.set(0, 0, 1024, 1);
        due("all of that size are taken", x.besides(1024, 1, 0), -2000);
        due("all the less", x.besides(512, 3, 0) * 10 + x.besides(512, 3, 1), -5120);
        x = of("space 10;span 1023 1023 comb;");
        for (int size = 1; size <= 1024; size *= 2) {
            due("what it gains, less the others of it", x.besides(size, 1, 0), 2 - size);
            due("the last block: others gain less", x.besides(size, 1, 1), 1024 - size);
        }
        due("one that was not RIGHT is not lost", x.besides(16, 3, 0) * 10000 + x.besides(16, 3, 1), -15 * 10000 + 1008);
        x.set(0, 1023, 1, 3);
        due("the best is of a REGISTER", x.besides(1, 1, 0) * 10 + x.besides(1, 1, 1), -10);
        due("0 changes nothing: the first", x.besides(1, 0, 0) * 10 + x.besides(1, 0, 1), 0);
        x.set(1, 0, 1, 0);
        due("the first is of a REGISTER", x.besides(1, 0, 0) * 10 + x.besides(1, 0, 1), 1);
        at("promise 41: no matter whether there is an EMPTY REGISTER");
        x = of("space 4;registers 1;reg 0 16 back;span 0 15 thru;");
        due("over it", x.besides(8, 2, 0) * 10 + x.besides(8, 2, 1), 80);
        x = of("space 4;fixed 4" + FIXED_NONE + "span 0 15 comb;");
        due("all FIXED", x.besides(4, 1, 0) * 10 + x.besides(4, 1, 1), 0);
    }

    private static void changes() {
        at("none can, if none is EMPTY");
        SpanKinds x = of("space 4;registers 1;default none;span 0 7 comb;reg 8 8 none;");
        due("the GO first", order(x), "0/0 1/8");
        x = of("space 4;registers 2;default none;span 0 7 comb;reg 0 8 none;reg 8 8 none;");
        due("GOs by REGISTERS, then COMES", order(x), "0/0 1/0 2/8");
        x = of("space 4;registers 2;default prot;span 0 7 comb;reg 8 8 none;reg 0 8 none;");
        due("one GO is enough to come, but prot is neither", x.change(0) * 10 + x.change(2), 31);
        due("8 to 15 go first, then comb comes, none goes", order(x), "0/8 2/0 1/8");
        x = of("space 4;registers 1;default prot;span 0 7 comb;reg 0 8 none;");
        due("no room", x.change(0) * 10 + x.change(2), 20);
        due("none", order(x), "");
        x = of("space 4;registers 2;default prot;span 0 7 comb;reg 0 8 none;");
        due("room", order(x), "1/0 0/8");
        x = of("space 5;registers 2;default prot;span 0 7 thru;span 16 23 comb;reg 16 8 none;");
        due("thru, were it the first, would take the room that comb needs", order(x), "2/0 0/8 1/8");
        x = of("space 5;registers 3;default prot;span 0 7 thru;span 16 23 comb;reg 16 8 none;");
        due("room for both", order(x), "1/8 2/0 0/8");
        at("of a KIND that it has ahead of all, or behind all, or of KIND 0");
        x = of("space 4;default none;span 0 15 comb;reg 0 16 thru;");
        due("none between", order(x), "0/16 1/16");
        x = of("space 4;default back;span 0 15 comb;reg 0 16 thru;");
        due("back between, or a clash", x.change(2), 0);
        x = of("space 4;default comb;reg 0 16 comb;reg 0 8 thru;reg 0 4 thru;");
        due("a clash that it has ahead of all", order(x), "1/4 2/4 0/0");
        x = of("space 4;fixed 4" + FIXED_NONE + "reg 0 16 thru;reg 0 8 comb;");
        due("all FIXED", order(x), "0/0 1/0");
        at("of all SAFE ORDERS the first, found anew behind an ACT");
        x = of("space 4;registers 2;default prot;span 0 7 comb;reg 0 8 none;");
        due("the COME first", order(x), "1/0 0/8");
        x.prefer(0);
        due("the GO first", order(x), "0/0 1/8");
        x.undo();
        due("the COME first", order(x), "1/0 0/8");
        x.set(1, 8, 8, 3);
        due("it must go, to make room", order(x), "1/0 2/0 0/8");
        x = of("space 4;registers 2;default prot;reg 0 8 none;");
        due("one goes", order(x), "0/8");
        x.set(0, 8, 8, 0);
        due("another goes", order(x), "0/8");
        x = of("space 4;default comb;span 0 7 thru;reg 0 8 thru;reg 0 4 back;");
        due("what stays is there all the time", order(x), "0/0");
        x = of("space 4;registers 2;span 0 0 comb;span 15 15 comb;");
        x.lay();
        x.drop(1);
        due("what the PLAN had ahead of it goes", order(x), "0/1");
        x.drop(0);
        due("all of it", order(x), "0/1 1/1");
        sevenSteps();
        wrongStarts();
        at("no STEPS");
        x = of("space 4;span 0 7 comb;reg 0 8 comb;");
        due("it is the PLAN", x.change(0) * 100 + x.change(1) * 10 + x.change(2), 1);
        due("none", order(x), "");
        x.set(0, 0, 8, 2);
        due("its block, of another KIND", x.change(0) * 100 + x.change(1) * 10 + x.change(2), 211);
        at("or there are more than 12 STEPS");
        twelveSteps();
        at("if REGISTERS do not do");
        x = of("space 4;registers 1;span 0 0 comb;span 15 15 comb;");
        due("one too few", x.change(0) * 100 + x.change(1) * 10 + x.change(2), 199);
        due("none", order(x), "");
        x = of("space 4;registers 2;span 0 0 comb;span 15 15 comb;");
        due("enough", order(x), "0/1 1/1");
    }

    /** The first GO is not safe till the COME has come: all sets of the others are tried with it. */
    private static void sevenSteps() {
        for (int others = 1; others <= 9; others++) {
            SpanKinds x = of("space 8;registers 10;default prot;span 0 7 comb;reg 0 8 none;");
            StringBuilder all = new StringBuilder();
            for (int i = 1; i <= others; i++) {
                x.set(i, 64 + 8 * i, 2, 0);
                all.append(i).append("/2 ");
            }
            due("the first GO last, " + others + " others", order(x), all.append(others + 1).append("/0 0/8").toString());
        }
        for (int goes = 1; goes <= 8; goes++) {
            SpanKinds x = of("space 7;registers 10;default prot;span 0 63 comb;");
            StringBuilder all = new StringBuilder().append(goes).append('/').append(64 - 8 * goes);
            for (int i = 0; i < goes; i++) {
                x.set(i, 8 * i, 8, 0);
                all.append(' ').append(i).append("/8");
            }
            due("the COME ahead of " + goes + " GOs", order(x), all.toString());
        }
    }

    /** A STEP that is safe by itself, and behind which no other ever is: what was tried so is no matter later. */
    private static void wrongStarts() {
        at("of all SAFE ORDERS the first, behind a STEP that leads nowhere");
        SpanKinds x = of("space 8;default back;span 0 15 thru;reg 0 256 back;reg 64 64 thru;reg 96 16 prot;");
        due("back, gone first, is missed by prot and thru", order(x), "1/48 2/16 0/0 3/16");
        x = of("space 8;default back;span 64 71 prot;reg 40 8 comb;reg 0 256 back;reg 32 32 thru;");
        due("back, gone first, is missed by comb and thru", order(x), "2/24 0/8 1/0 3/8");
        x = of("space 8;default back;reg 224 16 back;reg 224 8 comb;reg 128 128 thru;reg 0 64 thru;");
        due("the lesser back, gone first, is missed too", order(x), "2/120 1/8 0/0 3/64");
        at("of all SAFE ORDERS the first, of seven STEPS and more");
        x = of("space 6;default back;span 0 31 none;span 2 3 comb;reg 0 32 thru;reg 0 64 comb;reg 52 4 back;reg 0 8 none;");
        due("9", order(x), "4/0 5/0 7/8 8/16 0/0 1/32 2/0 6/0 3/2");
        x = of("space 6;default prot;span 0 63 back;span 2 3 comb;reg 0 64 thru;reg 0 32 thru;reg 0 16 none;reg 56 4 none;");
        due("10", order(x), "1/0 4/0 5/0 6/0 8/0 9/0 0/44 3/4 7/0 2/16");
        x = of("space 6;default comb;span 0 63 none;span 36 39 thru;span 28 29 comb;reg 32 16 back;reg 0 32 comb;reg 48 4 thru;");
        due("11", order(x), "1/0 3/16 4/8 5/4 7/4 8/4 9/8 0/0 10/16 2/0 6/2");
        x = of("space 6;default back;span 0 31 none;reg 0 64 thru;reg 24 2 comb;reg 32 32 back;reg 16 8 none;reg 0 4 comb;"
            + "reg 32 16 comb;");
        due("the COME, last of 7, first", order(x), "6/24 0/16 1/0 3/0 4/0 5/16 2/0");
        x = of("space 6;registers 9;default back;reg 54 2 prot;reg 32 16 prot;reg 32 32 back;reg 16 8 comb;reg 48 4 none;"
            + "reg 0 32 back;reg 0 64 thru;");
        due("a GO, last of 7, first", order(x), "6/34 0/2 1/16 2/0 3/8 4/4 5/0");
        x = of("space 6;default back;reg 0 32 thru;reg 0 64 back;reg 32 8 prot;reg 8 2 prot;reg 0 4 none;reg 56 8 thru;"
            + "reg 8 8 thru;");
        due("7 GOs", order(x), "0/20 2/8 4/4 5/8 6/6 3/2 1/0");
        x = of("space 6;default back;reg 2 2 back;reg 0 32 none;reg 0 64 back;reg 0 4 back;reg 48 8 thru;reg 24 4 comb;"
            + "reg 50 2 comb;");
        due("7 GOs, back last", order(x), "0/0 3/0 4/6 5/0 1/32 6/2 2/0");
    }

    private static void twelveSteps() {
        for (int goes = 0; goes <= 10; goes++) {
            SpanKinds x = of("space 7;registers 10;span 1 1 comb;span 3 3 comb;span 5 5 comb;");
            for (int i = 0; i < goes; i++) {
                x.set(i, 64 + 2 * i, 1, 1);
            }
            due("steps", x.change(0) * 100 + x.change(1), (goes + 3) * 100 + goes);
            due("an order, or none", x.change(2), goes + 3 > 12 ? -1 : 1);
            StringBuilder all = new StringBuilder();
            for (int i = 0; i < goes + 3 && goes + 3 <= 12; i++) {
                all.append(i).append("/1 ");
            }
            due("the order", order(x), all.toString().trim());
        }
        SpanKinds x = of("space 6;registers 9;default thru;span 0 63 back;span 16 17 comb;span 8 9 comb;reg 32 16 thru;"
            + "reg 0 64 prot;reg 8 8 thru;");
        due("12, and no order is safe", x.change(0) * 100 + x.change(1) * 10 + x.change(2), 1230);
        due("none", order(x), "");
        x = of("space 7;registers 10;default none;");
        for (int i = 0; i < 10; i++) {
            x.set(i, 12 * i, 1, 1);
        }
        due("10 GOs", order(x), "0/1 1/1 2/1 3/1 4/1 5/1 6/1 7/1 8/1 9/1");
        x = of("space 8;default prot;span 0 255 thru;span 128 255 none;span 232 239 back;reg 192 32 comb;reg 64 64 none;"
            + "reg 208 8 back;reg 192 64 back;reg 152 8 thru;reg 0 256 none;reg 32 16 prot;");
        due("thru in a PLAN of more", x.plan(-1, 0), 6);
        x.drop(0);
        due("none over all goes when all have come", order(x), "0/0 1/0 2/0 3/0 4/0 6/0 7/0 8/0 9/0 10/0 11/0 5/136");
    }

    private static void blocksAndBits() {
        at("promise 45: the greatest aligned block");
        SpanKinds x = of("space 10;");
        due("all of SPACE", x.block(0, 0) * 10 + x.block(0, 1), 10240);
        x.span(0, 0, 1);
        due("without the first", x.block(0, 0) * 1000 + x.block(0, 1), 512512);
        due("one ADDRESS, the first", x.block(1, 0) * 10 + x.block(1, 1), 10);
        x.span(1023, 1023, 1);
        due("without both ends", x.block(0, 0) * 1000 + x.block(0, 1), 256256);
        due("the least of like ones", x.block(1, 0) * 10 + x.block(1, 1), 10);
        x.span(0, 0, 0);
        due("the last", x.block(1, 0) * 10000 + x.block(1, 1), 11023);
        x = of("space 4;span 1 6 back;");
        due("two of 2, none of 4", x.block(4, 0) * 10 + x.block(4, 1), 22);
        x = of("space 4;span 3 4 back;");
        due("two that are no aligned block", x.block(4, 0) * 10 + x.block(4, 1), 13);
        x = of("space 4;fixed 4" + times(" comb", 8) + ";span 0 7 back;reg 0 16 prot;");
        due("WANTED, not what they are", x.block(4, 0) * 10 + x.block(0, 0), 88);
        due("none", x.block(1, 0) + x.block(3, 0), -2);
        at("promise 46: the number of ones");
        for (int space = 4; space <= 10; space++) {
            x = of("space " + space + ";");
            due("all", x.bits(0), space << space - 1);
            due("none", x.bits(1) + x.bits(5), 0);
            x.set(0, (1 << space) - 1, 1, 4);
            due("the last", x.bits(4), space);
            x.set(0, 0, 1, 4);
            due("the first", x.bits(4), 0);
            due("all the same", x.bits(0), space << space - 1);
            x.set(0, 0, 1 << space, 3);
            x.set(1, 0, 1 << space - 1, 1);
            due("half clashes", x.bits(5), space - 1 << space - 2);
            due("half does not", x.bits(3), (space << space - 1) - (space - 1 << space - 2));
        }
        x = of("space 4;fixed 4 none comb thru prot back none comb thru;");
        due("of PARTS", x.bits(1) * 100 + x.bits(4), (1 + 2 + 2 + 3) * 100 + 3);
    }

    private static void boxes() {
        at("promise 48: how many, the first (2; -2: none is)");
        SpanKinds x = of("space 10;");
        due("image", x.image(0), 0);
        due("none", x.differs(0, 0) * 100 + x.differs(0, 1) * 10 + x.differs(0, 2), -2);
        x.set(0, 1023, 1, 1);
        due("the last", x.differs(0, 0) * 10000 + x.differs(0, 2), 11023);
        x.set(0, 0, 1, 1);
        due("the first", x.differs(0, 0) * 10000 + x.differs(0, 2), 10000);
        x.set(0, 0, 1024, 1);
        due("all", x.differs(0, 0) * 10 + x.differs(0, 1), 10240);
        x.set(1, 0, 1024 / 2, 4);
        x.image(1);
        x.set(1, 512, 512, 4);
        due("a clash is a KIND", x.differs(1, 0) * 10 + x.differs(1, 2), 10240);
        x.span(0, 1023, 2);
        due("all WANTED otherwise", x.differs(0, 1), 1024);
        x.span(0, 1023, 0);
        due("none WANTED otherwise", x.differs(0, 1), 0);
        x.prefer(3);
        due("DEFAULT is no matter where SPANS are", x.differs(0, 1), 0);
        x = of("space 8;span 3 5 comb;");
        x.image(1);
        x.span(101, 107, 2);
        due("WANTED now", x.differs(1, 1), 7);
        x.drop(0);
        due("WANTED then, too", x.differs(1, 1), 10);
        x.set(3, 40, 8, 2);
        x.image(0);
        x.clear(3);
        x.set(0, 50, 2, 1);
        due("a REGISTER now, another then", x.differs(0, 0) * 100 + x.differs(0, 2), 1040);
        x = of("space 4;default comb;reg 0 16 thru;");
        x.image(0);
        x.prefer(3);
        due("DEFAULT is no matter where REGISTERS are", x.differs(0, 0) * 100 + x.differs(0, 2), -2);
        due("but is WANTED", x.differs(0, 1), 16);
        at("promise 48: but PAGES are no matter");
        x = of("space 4;");
        x.image(1);
        x.page(0, 3);
        due("differs", x.differs(1, 0) * 100 + x.differs(1, 1) * 10 + x.differs(1, 2), -2);
        at("promises 47, 49: all that there is (but the TAPE)");
        x = rich();
        x.image(0);
        String then = seenOf(x);
        x.feed(0, 0, 0, 0, 0);
        Consumer<SpanKinds> others = y -> {
            y.redo();
            y.span(0, 0, 3);
            y.drop(0);
            y.prefer(1);
            y.fix(3, 1);
            y.set(2, 8, 8, 2);
            y.clear(0);
            y.page(1, 5);
        };
        others.accept(x);
        due("back", x.back(0), 2);
        due("all as it was, but the TAPE, and nothing to be taken back",
            seenOf(x).replace("about 9 40", "about 9 20").replace("about 7 0", "about 7 2").replace("about 8 0", "about 8 1"), then);
        due("undo, redo", x.undo() || x.redo(), false);
        others.accept(x);
        due("the BOX stays", x.back(0), 2);
        due("the other, too", x.back(1), 1);
        at("promise 47: what was kept there is gone");
        x = of("space 4;");
        x.image(0);
        x.span(0, 3, 1);
        x.image(1);
        x.span(4, 5, 1);
        due("image", x.image(0), 2);
        x.drop(0);
        x.drop(0);
        due("back", x.back(1) * 10 + x.back(0), 12);
    }

    private static void about() {
        at("promise 50: the least and the greatest");
        SpanKinds x = of("space 4;registers 1;");
        int[] least = {16, 1, 0, 0, 0, 0, 1, 0, 0, 0, 1, 0};
        for (int i = 0; i < 12; i++) {
            due("about(" + i + ")", x.about(i), least[i]);
        }
        StringBuilder text = new StringBuilder("space 10;registers 10;default back;fixed 10" + FIXED_NONE);
        for (int i = 0; i < 12; i++) {
            text.append("span ").append(50 * i + 1).append(' ').append(50 * i + 2).append(" comb;");
        }
        for (int i = 0; i < 10; i++) {
            text.append("reg ").append(i).append(" 1 comb;");
        }
        x = of(text.toString());
        for (int i = 0; i < 64; i++) {
            x.page(i, i % 5);
        }
        write(x, times(" ", 800));
        int[] greatest = {1024, 10, 10, 4, 12, 1024, 25, 16, 0, 800, 64, 64};
        for (int i = 0; i < 12; i++) {
            due("about(" + i + ")", x.about(i), greatest[i]);
        }
        for (int i = 0; i < 16; i++) {
            x.undo();
        }
        due("to be done again", x.about(8) * 100 + x.about(11), 1648);
    }

    public static void main(String[] args) {
        wantedAndRuns();
        fixedParts();
        together();
        plans();
        most();
        seenAndPages();
        pagedPlans();
        actsCount();
        sixteen();
        registersFull();
        wrongOnes();
        defaults();
        anyOrder();
        oneRegister();
        besides();
        changes();
        blocksAndBits();
        boxes();
        about();
        finish();
    }
}
