/**
 * Of small stores all sets of few blocks: none of fewer than cost() tells is a COVER, none of r
 * blocks puts more RIGHT than most() tells; and the plan's own blocks do what they should.
 */
public final class BruteForceTest {
    private static final int SIZE = 16;
    private static final int[] BASE = new int[31];
    private static final int[] LENGTH = new int[31];
    private static long seed = 11;
    private static int wrong = 0;

    private final SpanKinds x = new SpanKinds();
    private final int[] wanted = new int[SIZE];
    private int fixed;
    private int preferred;

    private static int below(int n) {
        seed = seed * 6364136223846793005L + 1442695040888963407L;
        return (int) ((seed >>> 33) % n);
    }

    private static void allBlocks() {
        int n = 0;
        for (int length = 1; length <= SIZE; length *= 2) {
            for (int base = 0; base < SIZE; base += length) {
                BASE[n] = base;
                LENGTH[n++] = length;
            }
        }
    }

    private static int together(int kinds, int otherwise) {
        int[] single = {0, 0, 1, 0, 2, 0, 0, 0, 3, 0, 0, 0, 0, 0, 0, 0, 4};
        if (kinds == 0) {
            return otherwise;
        }
        if ((kinds & 1) != 0) {
            return 0;
        }
        return kinds == 20 ? 2 : kinds == 2 || kinds == 4 || kinds == 8 || kinds == 16 ? single[kinds] : 5;
    }

    private static int seenAs(int p, int k) {
        return p == 5 ? k : k == 5 ? 5 : p + k == 5 && p * k == 6 ? 0 : Math.min(p, k);
    }

    private void make() {
        StringBuilder text = new StringBuilder("space 4;default ");
        String[] kinds = {"none", "comb", "thru", "prot", "back"};
        int[] often = {0, 2, 4, 4, 1, 3};
        preferred = often[below(6)];
        text.append(kinds[preferred]).append(';');
        fixed = below(3) == 0 ? 8 : 0;
        if (fixed > 0) {
            text.append("fixed 3 none none none none none none none none;");
        }
        int spans = 1 + below(4);
        for (int i = 0; i < spans; i++) {
            int from = below(SIZE);
            int to = from + below(SIZE - from);
            text.append("span ").append(from).append(' ').append(to).append(' ');
            text.append(kinds[often[below(6)]]).append(';');
        }
        give(text.toString());
        for (int a = 0; a < SIZE; a++) {
            wanted[a] = x.wanted(a);
        }
    }

    private void give(String text) {
        for (int i = 0; i < text.length(); i += 20) {
            int[] f = new int[5];
            for (int j = 0; j < 20; j++) {
                f[j / 4] = f[j / 4] << 8 | (i + j < text.length() ? text.charAt(i + j) : ' ');
            }
            x.feed(f[0], f[1], f[2], f[3], f[4]);
        }
        if (x.store() < 0) {
            wrong++;
            System.out.println("not a store: " + text);
        }
    }

    /** The kinds, a bit each, over every address by some blocks (block * 5 + kind each). */
    private int right(int[] set, int n, int pageKind) {
        int count = 0;
        for (int a = fixed; a < SIZE; a++) {
            int kinds = 0;
            for (int i = 0; i < n; i++) {
                int b = set[i] / 5;
                kinds |= a >= BASE[b] && a < BASE[b] + LENGTH[b] ? 1 << set[i] % 5 : 0;
            }
            count += seenAs(pageKind, together(kinds, preferred)) == wanted[a] ? 1 : 0;
        }
        return count;
    }

    private static boolean apart(int[] set, int n) {
        for (int i = 0; i < n; i++) {
            for (int j = 0; j < i; j++) {
                int a = set[i] / 5;
                int b = set[j] / 5;
                if (BASE[a] < BASE[b] + LENGTH[b] && BASE[b] < BASE[a] + LENGTH[a]) {
                    return false;
                }
            }
        }
        return true;
    }

    private int mostRight;
    private boolean added;
    private boolean paged;

    private void trySets(int[] set, int n, int most) {
        int good = right(set, n, 5);
        mostRight = Math.max(mostRight, good);
        added |= good == SIZE - fixed && apart(set, n);
        for (int p = 0; p < 5 && !paged; p++) {
            paged = right(set, n, p) == SIZE - fixed;
        }
        paged |= good == SIZE - fixed;
        for (int next = n == 0 ? 0 : (set[n - 1] / 5 + 1) * 5; n < most && next < 155; next++) {
            set[n] = next;
            trySets(set, n + 1, most);
        }
    }

    private void due(String what, boolean is) {
        if (!is) {
            wrong++;
            System.out.println("not as due: " + what);
        }
    }

    private void look(int most) {
        for (int r = 0; r <= most; r++) {
            mostRight = 0;
            added = false;
            paged = false;
            trySets(new int[most + 1], 0, r);
            due("most " + r, x.most(r) == mostRight);
            due("cost(1) by " + r, (x.cost(1) <= r) == (mostRight == SIZE - fixed));
            due("cost(0) by " + r, (x.cost(0) <= r) == added);
            due("withPages(0) by " + r, (x.withPages(0) <= r) == paged);
            lookBestSet(r);
        }
        lookPlan(true);
        lookPlan(false);
    }

    private static int index(int base, int length) {
        for (int i = 0; i < 31; i++) {
            if (BASE[i] == base && LENGTH[i] == length) {
                return i;
            }
        }
        return 0;
    }

    private void lookBestSet(int r) {
        int n = x.bestSet(r, -1, 0);
        int[] set = new int[n];
        for (int i = 0; i < n; i++) {
            set[i] = index(x.bestSet(r, i, 0), x.bestSet(r, i, 1)) * 5 + x.bestSet(r, i, 2);
        }
        due("bestSet has " + r + " at most", n <= r);
        due("bestSet puts so many right", right(set, n, 5) == x.most(r));
    }

    private void lookPlan(boolean withPages) {
        int n = withPages ? x.pagedPlan(-1, 0) : x.plan(-1, 0);
        int[] set = new int[n];
        for (int i = 0; i < n; i++) {
            int base = withPages ? x.pagedPlan(i, 0) : x.plan(i, 0);
            int length = withPages ? x.pagedPlan(i, 1) : x.plan(i, 1);
            set[i] = index(base, length) * 5 + (withPages ? x.pagedPlan(i, 2) : x.plan(i, 2));
        }
        due("a plan is a cover", right(set, n, withPages ? x.pageFor(0) : 5) == SIZE - fixed);
    }

    public static void main(String[] args) {
        allBlocks();
        for (int i = 0; i < 60; i++) {
            BruteForceTest one = new BruteForceTest();
            one.make();
            one.look(i % 20 == 0 ? 3 : 2);
        }
        System.out.println("60 small stores looked at, " + wrong + " answers not as due");
        if (wrong != 0) {
            System.exit(1);
        }
    }
}
