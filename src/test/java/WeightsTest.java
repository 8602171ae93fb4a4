import java.util.function.Supplier;

/** Promises 26 to 32: weights. */
final class WeightsTest extends Case {
    private static final int NO_INT = Integer.MIN_VALUE;

    static void run() {
        weigh();
        asOf();
        weighs();
        over();
        foretell();
        lost();
        lateLoads();
        thieving();
    }

    private static void weigh() {
        SkipCity x = Town.made();
        due("weigh on the day of the load", x.weigh(1, 2, 3000, 2), 1);
        due("weight", x.weighs(1, 0), 3000);
        due("weigh again", x.weigh(1, 2, 1, 3), 1);
        due("weight", x.weighs(1, 0), 1);
        due("a weight of 1 is known", x.count(7), 2);
        due("a weight of 1 counts", x.lost(5, 0, 2), 1);
        x.drift(2, 50);
        due("weigh on the day", x.weigh(1, 2, 50, 4), 1);
        due("one at least is left", x.weighs(1, 0), 1);
        x.drift(2, -50);
        due("drift as it was then", x.weighs(1, 0), 1);
        x.pass(1);
        due("a fourth time", x.weigh(1, 2, 3000, 5), 1);
        due("too little shown", x.weighs(1, 0), 3050);
        x.pass(1);
        due("full", x.weigh(1, 2, 3000, 6), -4);
        due("not before full", x.weigh(1, 2, 3000, 5), -3);
        due("bad before full", x.weigh(1, 2, 0, 6), -2);
        int[][] bad = {{-1, 0, 9, 3}, {3, 0, 9, 3}, {1, -1, 9, 3}, {1, 3, 9, 3}, {1, 0, 0, 3}, {1, 0, 3001, 3},
            {1, 0, 9, -1}, {1, 0, 9, 400}, {2, 0, 0, 3}};
        for (int[] b : bad) {
            refused("weigh bad", Town::made, t -> t.weigh(b[0], b[1], b[2], b[3]), -2);
        }
        refused("weigh without a load", Town::made, t -> t.weigh(2, 0, 9, 4), -3);
        refused("weigh ahead of the load", Town::made, t -> t.weigh(1, 0, 9, 1), -3);
        refused("weigh behind the day", Town::made, t -> t.weigh(1, 0, 9, 5), -3);
        refused("weigh on the day told before", Town::made, t -> t.weigh(0, 0, 9, 2), -3);
        refused("weigh ahead of the day told before", Town::made, t -> t.weigh(0, 0, 9, 1), -3);
        Supplier<SkipCity> then = () -> {
            SkipCity t = Town.made();
            t.asOf(1);
            return t;
        };
        refused("weigh on a day told, though not known", then, t -> t.weigh(0, 0, 9, 2), -3);
        Supplier<SkipCity> full = () -> {
            SkipCity t = Town.made();
            t.weigh(0, 0, 9, 3);
            t.weigh(0, 0, 9, 4);
            t.pass(1);
            return t;
        };
        refused("weigh full", full, t -> t.weigh(0, 0, 9, 5), -4);
        refused("weigh not before full", full, t -> t.weigh(0, 0, 9, 4), -3);
    }

    private static void asOf() {
        SkipCity x = Town.made();
        due("asOf(0)", x.asOf(0), -1);
        due("nothing is known", x.weighs(0, 0), -3);
        due("count(7)", x.count(7), 0);
        due("asOf(1)", x.asOf(1), 0);
        due("the first is known", x.weighs(0, 0), 600);
        due("count(7)", x.count(7), 1);
        due("asOf(2)", x.asOf(2), 1);
        due("both are", x.weighs(0, 0), 695);
        due("asOf(399)", x.asOf(399), 2);
        due("both are", x.weighs(0, 0), 695);
        due("asOf(-1)", x.asOf(-1), 399);
        due("the same", x.asOf(-1), -1);
        refused("asOf(-2)", Town::made, t -> t.asOf(-2), -2);
        refused("asOf(400)", Town::made, t -> t.asOf(400), -2);
    }

    private static void weighs() {
        SkipCity x = Town.made();
        answers("weighs", new long[] {695, 1, 2}, what -> x.weighs(0, what));
        x.asOf(1);
        answers("weighs as of 1", new long[] {600, 0, 1}, what -> x.weighs(0, what));
        refused("weighs, no load", Town::made, t -> t.weighs(2, 0), -3);
        refused("weighs, not known", Town::made, t -> t.weighs(1, 2), -3);
        refused("weighs(-1)", Town::made, t -> t.weighs(-1, 0), -2);
        refused("weighs(3)", Town::made, t -> t.weighs(3, 0), -2);
        refused("weighs bad before not", Town::made, t -> t.weighs(2, 3), -2);
    }

    private static void over() {
        SkipCity x = Town.made();
        answers("over", new long[] {215, 30}, what -> x.over(0, what));
        answers("over, not known", new long[] {0, 0}, what -> x.over(1, what));
        x.asOf(0);
        answers("over, not known yet", new long[] {0, 30}, what -> x.over(0, what));
        x.asOf(-1);
        x.weigh(1, 0, 480, 2);
        due("480 in size 4 is not over", x.over(1, 0), 0);
        x.weigh(1, 0, 481, 3);
        due("481 is", x.over(1, 0), 1);
        x.fetch(2, 0, 101);
        due("101 is over", x.over(2, 1), 1);
        refused("over, no load", Town::made, t -> t.over(2, 0), -3);
        refused("over bad before not", Town::made, t -> t.over(2, 2), -2);
        refused("over(-1)", Town::made, t -> t.over(-1, 0), -2);
        refused("over(3)", Town::made, t -> t.over(3, 0), -2);
    }

    /** LOADS of TRADE 1 and SIZE 2 fetched on DAY 0 by LORRY 0: heights, weights (0: not WEIGHED). */
    private static SkipCity loads(int[] heights, int[] weights) {
        SkipCity x = new SkipCity();
        x.kerb(0, 1, 1, 60);
        x.tip(1, 1, 1, 1, 1, 1);
        x.permit(0, 0, 13);
        x.skip(2);
        for (int i = 0; i < heights.length; i++) {
            x.let(0, 0, 1, 9);
            x.fetch(i, 0, heights[i]);
            if (weights[i] > 0) {
                x.weigh(i, 0, weights[i], 0);
            }
        }
        return x;
    }

    private static void foretell() {
        SkipCity none = new SkipCity();
        answers("without any", new long[] {720, 1080, 1440, 0}, what -> none.foretell(0, 12, 100, what));
        answers("without any, cut", new long[] {0, 0, 1, 0}, what -> none.foretell(5, 1, 1, what));
        answers("without any, cut", new long[] {108, 162, 217, 0}, what -> none.foretell(5, 1, 181, what));
        answers("without any, cut", new long[] {25, 38, 51, 0}, what -> none.foretell(5, 1, 43, what));
        SkipCity x = loads(new int[] {30, 80, 0, 50, 7}, new int[] {100, 200, 999, 0, 10});
        answers("three loads", new long[] {142, 241, 333, 3}, what -> x.foretell(1, 2, 100, what));
        answers("three loads at 1", new long[] {1, 2, 3, 3}, what -> x.foretell(1, 2, 1, what));
        answers("three loads at 200", new long[] {285, 483, 666, 3}, what -> x.foretell(1, 2, 200, what));
        answers("another trade", new long[] {120, 180, 240, 0}, what -> x.foretell(2, 2, 100, what));
        answers("another size", new long[] {180, 270, 360, 0}, what -> x.foretell(1, 3, 100, what));
        SkipCity y = loads(new int[] {200, 1}, new int[] {3, 3000});
        answers("far apart", new long[] {3, 300001, 600000, 2}, what -> y.foretell(1, 2, 200, what));
        SkipCity t = Town.made();
        due("as it is known", t.foretell(1, 4, 130, 1), 695);
        t.asOf(1);
        due("as of 1", t.foretell(1, 4, 130, 1), 600);
        t.asOf(0);
        due("as of 0", t.foretell(1, 4, 130, 3), 0);
        int[][] bad = {{-1, 1, 1, 0}, {6, 1, 1, 0}, {0, 0, 1, 0}, {0, 13, 1, 0}, {0, 1, 0, 0}, {0, 1, 201, 0}};
        for (int[] b : bad) {
            refused("foretell bad", Town::made, c -> c.foretell(b[0], b[1], b[2], b[3]), -2);
        }
    }

    private static void lost() {
        SkipCity x = loads(new int[] {100, 50, 200}, new int[] {100, 100, 100});
        // By the others: of 0: (200 + 50) / 2 = 125; of 1: (50 + 25) / 2 = 37; of 2: (200 + 400) / 2 = 300.
        due("lost", x.lost(0, 0, 0), 162);
        due("foretold", x.lost(0, 0, 1), 462);
        due("loads", x.lost(0, 0, 2), 3);
        due("another lorry", x.lost(1, 0, 2), 0);
        due("another week", x.lost(0, 1, 2), 0);
        due("last week", x.lost(5, 57, 0), 0);
        SkipCity alone = loads(new int[] {100}, new int[] {3000});
        due("below 0", alone.lost(0, 0, 0), -2820);
        due("by no other", alone.lost(0, 0, 1), 180);
        SkipCity t = Town.made();
        due("lost of 1", t.lost(1, 0, 0), 468 - 695);
        due("not weighed, left out", t.lost(5, 0, 2), 0);
        t.asOf(1);
        due("as of 1", t.lost(1, 0, 0), 468 - 600);
        t.asOf(0);
        due("as of 0", t.lost(1, 0, 2), 0);
        int[][] bad = {{-1, 0, 0}, {6, 0, 0}, {0, -1, 0}, {0, 58, 0}, {0, 0, -1}, {0, 0, 3}};
        for (int[] b : bad) {
            refused("lost bad", Town::made, c -> c.lost(b[0], b[1], b[2]), NO_INT, 0);
        }
    }

    private static void refused(String what, Supplier<SkipCity> made, java.util.function.ToLongFunction<SkipCity> call,
            long want, int finding) {
        Checks.refused(what, made, call, want, finding);
    }

    private static void lateLoads() {
        SkipCity x = loads(new int[] {100, 0}, new int[] {0, 0});
        x.pass(13);
        due("13 days are not late", x.lost(0, 0, 2), 0);
        x.pass(1);
        due("14 days are", x.lost(0, 0, 2), 2);
        due("they weigh 0", x.lost(0, 0, 0), 180);
        due("foretold for height 0 is 0", x.lost(0, 0, 1), 180);
        x.weigh(0, 0, 80, 14);
        due("weighed late", x.lost(0, 0, 0), 100);
        x.asOf(13);
        due("not known so then", x.lost(0, 0, 0), 180);
        SkipCity y = loads(new int[] {10}, new int[] {0});
        y.pass(6);
        y.let(0, 0, 1, 9);
        y.fetch(1, 0, 10);
        y.pass(1);
        y.let(0, 0, 1, 9);
        y.fetch(2, 0, 10);
        y.pass(14);
        due("days 0 and 6 are of week 0", y.lost(0, 0, 2), 2);
        due("day 7 is of week 1", y.lost(0, 1, 2), 1);
    }

    /** LORRY 2 with a LOAD in each of the WEEKS 0 .. n - 1, of height 100, SIZE 1, foretold 90, with weights. */
    private static SkipCity weeks(int[] weights) {
        SkipCity x = new SkipCity();
        x.kerb(0, 1, 1, 60);
        x.tip(1, 1, 1, 1, 1, 1);
        x.skip(1);
        for (int i = 0; i < weights.length; i++) {
            x.permit(0, 7 * i, 7 * i);
            // A TRADE for each, so that there are no others to foretell by.
            x.let(0, 0, i, 399);
            x.fetch(i, 2, 100);
            if (weights[i] > 0) {
                x.weigh(i, 0, weights[i], 7 * i);
            }
            x.pass(7);
        }
        return x;
    }

    private static void thieving() {
        due("two weeks", weeks(new int[] {80, 80}).thieving(2, 0, 2), 1);
        due("just 10 hundredths", weeks(new int[] {80, 81}).thieving(2, 0, 2), 0);
        due("just 10 hundredths at first", weeks(new int[] {81, 80}).thieving(2, 0, 2), 0);
        due("more than foretold", weeks(new int[] {80, 200}).thieving(2, 0, 2), 0);
        due("from week 1", weeks(new int[] {90, 80, 80}).thieving(2, 1, 2), 1);
        due("from week 0", weeks(new int[] {90, 80, 80}).thieving(2, 0, 2), 0);
        due("of three, all", weeks(new int[] {80, 80, 80}).thieving(2, 0, 3), 1);
        due("of three, one not", weeks(new int[] {80, 80, 90}).thieving(2, 0, 3), 0);
        due("a week without loads", weeks(new int[] {80, 80}).thieving(2, 1, 2), 0);
        due("a load that is not weighed yet", weeks(new int[] {80, 0}).thieving(2, 0, 2), 0);
        SkipCity x = weeks(new int[] {80, 0});
        x.pass(7);
        due("a load that was never weighed", x.thieving(2, 0, 2), 1);
        due("another lorry", x.thieving(1, 0, 2), 0);
        x.asOf(0);
        due("as of 0", x.thieving(2, 0, 2), 1);
        due("20 weeks", x.thieving(2, 38, 20), 0);
        due("to week 57", x.thieving(2, 56, 2), 0);
        int[][] bad = {{-1, 0, 2}, {6, 0, 2}, {0, -1, 2}, {0, 58, 2}, {0, 0, 1}, {0, 0, 21}, {0, 57, 2}, {0, 39, 20},
            {0, Integer.MAX_VALUE, 20}};
        for (int[] b : bad) {
            refused("thieving bad", Town::made, t -> t.thieving(b[0], b[1], b[2]), -2);
        }
        due("a load of height 0 lost nothing", noHeight().thieving(0, 0, 2), 0);
    }

    private static SkipCity noHeight() {
        SkipCity x = loads(new int[] {0}, new int[] {0});
        x.pass(7);
        x.let(0, 0, 1, 9);
        x.fetch(1, 0, 0);
        x.pass(14);
        return x;
    }
}
