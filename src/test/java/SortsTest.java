import java.math.BigInteger;
import java.util.function.Supplier;

/** Promises 33 to 36: sorts. */
final class SortsTest extends Case {
    static void run() {
        draw();
        drawRefused();
        sorts();
        allBounds();
        taxed();
        find();
    }

    /** A LOAD (LET 0) and SHEET 0 of a FORM with items. */
    private static SkipCity load(int form, int... items) {
        SkipCity x = new SkipCity();
        x.kerb(0, 40, 50, 30);
        x.skip(4);
        x.permit(0, 0, 9);
        x.tip(20, 50, 63, 0, 23, 10);
        x.let(0, 0, 0, 8);
        x.fetch(0, 0, 90);
        x.sheet(0, form, items.length);
        for (int i = 0; i < items.length; i++) {
            x.put(0, form, i, items[i]);
        }
        return x;
    }

    private static void draw() {
        due("draw one of one", load(0, 0, 0, 0, 0, 0, 1).draw(0, 1, 0), 1);
        due("draw all of 60", load(1, 10, 10, 10, 10, 10, 10).draw(0, 60, 0), 60);
        due("draw from ints", load(2, 1, 2, 3, 4, 5, 6).draw(0, 21, 0), 21);
        due("draw, further items aside", load(2, 1, 0, 0, 0, 0, 0, -5, 99).draw(0, 5, 0), 1);
        SkipCity x = load(0, 1, 2, 3, 4, 5, 6);
        x.draw(0, 21, 0);
        x.put(0, 0, 0, 9);
        for (int sort = 0; sort <= 5; sort++) {
            due("drawn of " + sort, x.sorts(0, sort, 0), sort + 1);
        }
    }

    private static void drawRefused() {
        Supplier<SkipCity> well = () -> load(1, 3, 0, 7, 0, 0, 0);
        refused("draw(-1)", well, t -> t.draw(-1, 40, 0), -2);
        refused("draw(1)", well, t -> t.draw(1, 40, 0), -2);
        refused("draw of 0 pieces", well, t -> t.draw(0, 0, 0), -2);
        refused("draw of 61 pieces", well, t -> t.draw(0, 61, 0), -2);
        refused("draw, sheet -1", well, t -> t.draw(0, 40, -1), -2);
        refused("draw, sheet 4", well, t -> t.draw(0, 40, 4), -2);
        refused("draw, lost sheet", well, t -> t.draw(0, 40, 1), -11);
        refused("draw bad before null", well, t -> t.draw(0, 61, 1), -2);
        refused("draw null before not", Town::made, t -> t.draw(2, 40, 3), -11);
        refused("draw, five items", () -> load(0, 1, 1, 1, 1, 1), t -> t.draw(0, 40, 0), -12);
        refused("draw index before not", Town::made, t -> t.draw(2, 40, 1), -12);
        refused("draw without a load", Town::made, t -> t.draw(2, 40, 0), -3);
        refused("draw again", Town::made, t -> t.draw(0, 40, 0), -3);
        refused("draw, an item below 0", () -> load(0, 3, 0, -1, 0, 0, 5), t -> t.draw(0, 40, 0), -3);
        refused("draw none", () -> load(0, 0, 0, 0, 0, 0, 0, 5), t -> t.draw(0, 40, 0), -3);
        refused("draw more than there are", well, t -> t.draw(0, 9, 0), -3);
        int most = Integer.MAX_VALUE;
        refused("draw sums that wrap", () -> load(2, most, most, 3, 0, 0, 0), t -> t.draw(0, 40, 0), -3);
        refused("draw sums that wrap", () -> load(2, 1, most, most, 1, 1, 1), t -> t.draw(0, 40, 0), -3);
        refused("draw the least int", () -> load(2, 1, Integer.MIN_VALUE, 0, 0, 0, 0), t -> t.draw(0, 40, 0), -3);
    }

    private static void sorts() {
        SkipCity x = load(1, 3, 0, 7, 0, 0, 0);
        x.draw(0, 40, 0);
        answers("sort 0", new long[] {3, 4, 24}, what -> x.sorts(0, 0, what));
        answers("sort 1", new long[] {0, 0, 10}, what -> x.sorts(0, 1, what));
        answers("sort 2", new long[] {7, 16, 36}, what -> x.sorts(0, 2, what));
        refused("sorts(-1)", Town::made, t -> t.sorts(-1, 0, 0), -2);
        refused("sorts(3)", Town::made, t -> t.sorts(3, 0, 0), -2);
        refused("sorts, sort -1", Town::made, t -> t.sorts(0, -1, 0), -2);
        refused("sorts, sort 6", Town::made, t -> t.sorts(0, 6, 0), -2);
        refused("sorts, not drawn", Town::made, t -> t.sorts(1, 0, 0), -3);
        refused("sorts, no load", Town::made, t -> t.sorts(2, 0, 0), -3);
        refused("sorts bad before not", Town::made, t -> t.sorts(2, 0, 3), -2);
    }

    private static BigInteger choose(int n, int k) {
        BigInteger ways = k < 0 || k > n ? BigInteger.ZERO : BigInteger.ONE;
        for (int i = 1; i <= k && k <= n; i++) {
            ways = ways.multiply(BigInteger.valueOf(n - k + i)).divide(BigInteger.valueOf(i));
        }
        return ways;
    }

    private static boolean likely(int pieces, int n, int k, int all) {
        BigInteger atMost = BigInteger.ZERO;
        BigInteger atLeast = BigInteger.ZERO;
        for (int j = 0; j <= n; j++) {
            BigInteger these = choose(all, j).multiply(choose(pieces - all, n - j));
            atMost = j <= k ? atMost.add(these) : atMost;
            atLeast = j >= k ? atLeast.add(these) : atLeast;
        }
        BigInteger forty = BigInteger.valueOf(40);
        BigInteger any = choose(pieces, n);
        return forty.multiply(atMost).compareTo(any) >= 0 && forty.multiply(atLeast).compareTo(any) >= 0;
    }

    /** Bounds for small and for the greatest numbers, against sums that cannot wrap. */
    private static void allBounds() {
        for (int pieces : new int[] {1, 2, 3, 39, 40, 41, 59, 60}) {
            for (int n = 1; n <= pieces; n += pieces > 3 && n > 2 && n < pieces - 7 ? 7 : 1) {
                for (int k = 0; k <= n; k += k > 1 && k < n - 5 ? 5 : 1) {
                    SkipCity x = load(0, n - k, k, 0, 0, 0, 0);
                    due("draw", x.draw(0, pieces, 0), n);
                    int least = 0;
                    while (!likely(pieces, n, k, least)) {
                        least++;
                    }
                    int greatest = pieces;
                    while (!likely(pieces, n, k, greatest)) {
                        greatest--;
                    }
                    String of = k + " of " + n + " of " + pieces;
                    due("least, " + of, x.sorts(0, 1, 1), least);
                    due("greatest, " + of, x.sorts(0, 1, 2), greatest);
                }
            }
        }
    }

    private static void taxed() {
        SkipCity x = load(1, 3, 0, 7, 0, 0, 0);
        type(x, 4, "s0=100;s2=330;s2@1=999;s0@9=5");
        x.weigh(0, 0, 555, 0);
        due("all of sort 0", x.taxed(0), 555);
        x.draw(0, 40, 0);
        // 555 * 3 * 100 / 1000 = 166.5 and 555 * 7 * 330 / 1000 = 1282.05: each is cut.
        due("by sorts", x.taxed(0), 166 + 1282);
        x.pass(20);
        due("of the day of the load", x.taxed(0), 166 + 1282);
        x.weigh(0, 0, 1, 1);
        due("of the latest weight", x.taxed(0), 2);
        x.asOf(0);
        due("as of 0", x.taxed(0), 1448);
        type(x, 4, ";");
        due("by law as it is now", x.taxed(0), 0);
        SkipCity most = load(1, 0, 0, 0, 0, 0, 60);
        type(most, 4, "s5=999");
        most.drift(0, -50);
        most.weigh(0, 0, 3000, 0);
        due("of sort 0, without tax", most.taxed(0), 0);
        most.draw(0, 60, 0);
        due("the most", most.taxed(0), 3050 * 999 / 100);
        SkipCity cut = load(0, 1, 1, 1, 0, 0, 0);
        type(cut, 4, "s0=100;s1=100;s2=100");
        cut.draw(0, 3, 0);
        cut.weigh(0, 0, 5, 0);
        due("each is cut", cut.taxed(0), 3);
        refused("taxed(-1)", Town::made, t -> t.taxed(-1), -2);
        refused("taxed(3)", Town::made, t -> t.taxed(3), -2);
        refused("taxed, not weighed", Town::made, t -> t.taxed(1), -3);
        refused("taxed, no load", Town::made, t -> t.taxed(2), -3);
        Supplier<SkipCity> then = () -> {
            SkipCity t = Town.made();
            t.asOf(0);
            return t;
        };
        refused("taxed, not known", then, t -> t.taxed(0), -3);
    }

    private static void find() {
        SkipCity x = Town.made();
        due("the nearer of two", x.find(0, 0, 12), 0);
        due("the nearer from another kerb", x.find(1, 0, 12), 2);
        due("the nearest while it is open", x.find(0, 1, 11), 1);
        due("then the next", x.find(0, 1, 12), 2);
        due("before it opens", x.find(0, 1, 5), 2);
        due("when it opens", x.find(0, 1, 6), 1);
        due("no tip for the sort", x.find(0, 5, 12), -1);
        due("at the last hour", x.find(0, 1, 23), 2);
        due("at the first hour", x.find(0, 1, 0), 2);
        due("in a let that stands", x.find(2, 2, 7), 0);
        x.tip(60, 50, 5, 0, 23, 0);
        due("of like ones the least", x.find(0, 0, 12), 0);
        due("the next of like ones", x.find(0, 0, 19), 3);
        due("without tips", noTips().find(0, 0, 12), -1);
        int[][] bad = {{-1, 0, 0}, {3, 0, 0}, {0, -1, 0}, {0, 6, 0}, {0, 0, -1}, {0, 0, 24}};
        for (int[] b : bad) {
            refused("find bad", Town::made, t -> t.find(b[0], b[1], b[2]), -2);
        }
    }

    private static SkipCity noTips() {
        SkipCity x = new SkipCity();
        x.kerb(0, 40, 50, 30);
        x.skip(4);
        x.permit(0, 0, 9);
        x.let(0, 0, 0, 8);
        return x;
    }
}
