import java.util.function.Supplier;
import java.util.function.ToLongFunction;

/** The edges of weights: terms 4, promises 26 to 32. */
final class WeightsEdges extends Edges {
    static void run() {
        weighing();
        knowing();
        foretelling();
        losing();
        weighCalls();
        askCalls();
        lorryCalls();
    }

    /** LETS of TRADE 1 and SIZE 2 on DAY 0, that LORRY 0 fetched on that DAY with heights; TIP 0. */
    private static SkipCity loads(int... heights) {
        SkipCity x = new SkipCity();
        x.kerb(0, 40, 50, 60);
        x.tip(20, 50, 63, 0, 23, 0);
        x.tip(20, 50, 63, 0, 23, 0);
        x.permit(0, 0, 13);
        x.skip(2);
        for (int i = 0; i < heights.length; i++) {
            x.let(0, 0, 1, 99);
            x.fetch(i, 0, heights[i]);
        }
        return x;
    }

    /** The same, each WEIGHED on DAY 0 (0: not WEIGHED). */
    private static SkipCity weighed(int[] heights, int... weights) {
        SkipCity x = loads(heights);
        for (int i = 0; i < weights.length; i++) {
            if (weights[i] > 0) x.weigh(i, 0, weights[i], 0);
        }
        return x;
    }

    private static int[] of(int... numbers) {
        return numbers;
    }

    /** LET 0 has a LOAD of DAY 3 (SIZE 2, height 100), LET 1 stands; it is DAY 8. */
    private static SkipCity one() {
        SkipCity x = loads();
        x.skip(2);
        x.pass(3);
        x.let(0, 0, 1, 99);
        x.let(1, 0, 1, 99);
        x.fetch(0, 0, 100);
        x.pass(5);
        return x;
    }

    private static Supplier<SkipCity> told(int... days) {
        return () -> {
            SkipCity x = one();
            for (int day : days) x.weigh(0, 0, 100 + day, day);
            return x;
        };
    }

    private static void weighing() {
        says("T4", "WEIGHED is a LOAD at a TIP, of so many hundredths of a ton (1 to 3000), told on a DAY that is not ahead of "
            + "the LOAD's own and not behind the DAY.", () -> {
                range("weight", WeightsEdges::one, 1, 3000, (x, v) -> x.weigh(0, 0, v, 3), 1);
                range("TIP", WeightsEdges::one, 0, 1, (x, v) -> x.weigh(0, v, 9, 3), 1);
                answers("on the LOAD's own DAY", WeightsEdges::one, x -> x.weigh(0, 0, 9, 3), 1);
                refused("ahead of it", WeightsEdges::one, x -> x.weigh(0, 0, 9, 2), NOT);
                answers("on the DAY", WeightsEdges::one, x -> x.weigh(0, 0, 9, 8), 1);
                refused("behind it", WeightsEdges::one, x -> x.weigh(0, 0, 9, 9), NOT);
                refused("on the first DAY of all", WeightsEdges::one, x -> x.weigh(0, 0, 9, 0), NOT);
                refused("on the last DAY of all", WeightsEdges::one, x -> x.weigh(0, 0, 9, 399), NOT);
                SkipCity x = one();
                x.weigh(0, 1, 3000, 8);
                answers("WEIGHED", new long[] {3000, 1, 8}, what -> x.weighs(0, what));
                answers("a LOAD of the DAY", () -> loads(5), c -> c.weigh(0, 0, 9, 0), 1);
            });
        says("T4", "The BRIDGE of a TIP shows so much too much (DRIFT, -50 to 50; 0 at first): it is taken off, as DRIFT is "
            + "then; 1 at least is left.", () -> {
                due("at first", shown(0, 100), 100);
                due("the greatest", shown(50, 100), 50);
                due("the least", shown(-50, 100), 150);
                due("the least of the most", shown(-50, 3000), 3050);
                due("two are left", shown(50, 52), 2);
                due("one is left", shown(50, 51), 1);
                due("one at least", shown(50, 50), 1);
                due("one at least", shown(50, 1), 1);
                due("one more than shown", shown(-1, 1), 2);
                refusedAt("DRIFT", WeightsEdges::one, (x, v) -> x.drift(0, v), -1000, -51, 51, LEAST_INT, MOST_INT);
                SkipCity x = one();
                x.drift(0, 10);
                x.drift(1, 20);
                x.weigh(0, 0, 100, 3);
                x.drift(0, 30);
                due("as it was then", x.weighs(0, 0), 90);
                x.weigh(0, 0, 100, 4);
                due("as it is then", x.weighs(0, 0), 70);
                x.weigh(0, 1, 100, 5);
                due("of the TIP", x.weighs(0, 0), 80);
            });
        says("T4", "A LOAD is WEIGHED again with a later DAY told alone: that counts from that DAY on.", () -> {
            refused("the same DAY", told(5), x -> x.weigh(0, 0, 9, 5), NOT);
            refused("a DAY ahead", told(5), x -> x.weigh(0, 0, 9, 4), NOT);
            answers("a later DAY", told(5), x -> x.weigh(0, 0, 9, 6), 1);
            answers("the DAY itself", told(5, 6, 7), x -> x.weigh(0, 0, 9, 8), 1);
            refused("later than the latest alone", told(5, 7), x -> x.weigh(0, 0, 9, 6), NOT);
            SkipCity x = told(5, 7).get();
            int[] weights = {NOT, NOT, 105, 105, 107, 107};
            for (int day = 3; day <= 8; day++) {
                x.asOf(day);
                due("as of DAY " + day, x.weighs(0, 0), weights[day - 3]);
            }
            x.asOf(-1);
            due("of all", x.weighs(0, 0), 107);
            due("in the BILL", x.over(0, 0), 0);
            x.weigh(0, 0, 241, 8);
            due("from then on", x.over(0, 0), 1);
        });
    }

    private static int shown(int drift, int weight) {
        SkipCity x = one();
        x.drift(0, drift);
        x.weigh(0, 0, weight, 8);
        return x.weighs(0, 0);
    }

    private static void knowing() {
        says("T4", "AS OF a DAY (told; at first all) nothing that was told behind it is known.", () -> {
            SkipCity x = told(8).get();
            due("at first all", x.weighs(0, 0), 108);
            x.asOf(8);
            due("told on that DAY", x.weighs(0, 0), 108);
            x.asOf(399);
            due("as of the last DAY", x.weighs(0, 0), 108);
            x.asOf(7);
            due("told behind it", x.weighs(0, 0), NOT);
            due("not in count(7)", x.count(7), 0);
            due("not OVER", x.over(0, 0), 0);
            due("no TAX", x.taxed(0), NOT);
            due("not FORETOLD by", x.foretell(1, 2, 100, 3), 0);
            due("not LOST", x.lost(0, 0, 2), 0);
            due("no FEE", x.bill(0, 6), 0);
            x.asOf(0);
            due("as of the first DAY", x.weighs(0, 0), NOT);
            x.asOf(-1);
            due("all again", x.weighs(0, 0), 108);
            SkipCity y = weighed(of(100), 9);
            y.asOf(0);
            due("told on DAY 0, as of DAY 0", y.weighs(0, 0), 9);
        });
        says("T4", "OVER is what a LOAD weighs above 120 SIZE, and what its height is above 100.", () -> {
            for (int size = 1; size <= 12; size++) {
                due("just 120 SIZE", overOf(size, 120 * size, 0, 0), 0);
                due("one above", overOf(size, 120 * size + 1, 0, 0), 1);
            }
            due("the least weight", overOf(1, 1, 0, 0), 0);
            due("the most", overOf(1, 3000, 0, 0), 2880);
            int[] heights = {0, 99, 100, 101, 200};
            int[] above = {0, 0, 0, 1, 100};
            for (int i = 0; i < heights.length; i++) {
                due("height " + heights[i], overOf(1, 1, heights[i], 1), above[i]);
            }
        });
    }

    private static int overOf(int size, int weight, int height, int what) {
        SkipCity x = loads();
        x.skip(size);
        x.let(1, 0, 0, 9);
        x.fetch(0, 0, height);
        x.weigh(0, 0, weight, 0);
        return x.over(0, what);
    }

    private static void foretelling() {
        says("T4", "FORETOLD of a TRADE and SIZE with a height: of all LOADS of that TRADE and SIZE whose weight is known: each "
            + "weight by its own height times this height (cut; LOADS with height 0 aside): the least, the mean (cut), the "
            + "greatest; without any: 60, 90, 120 SIZE by 100 times the height, cut.", () -> {
                SkipCity none = loads();
                int[][] without = {{1, 1, 0, 0, 1}, {1, 2, 1, 1, 2}, {1, 100, 60, 90, 120}, {12, 1, 7, 10, 14},
                    {12, 200, 1440, 2160, 2880}, {1, 83, 49, 74, 99}, {1, 84, 50, 75, 100}};
                for (int[] w : without) {
                    foretold(none, 0, w[0], w[1], w[2], w[3], w[4], 0);
                }
                foretold(weighed(of(100), 0), 1, 2, 100, 120, 180, 240, 0);
                foretold(weighed(of(0), 500), 1, 2, 100, 120, 180, 240, 0);
                foretold(weighed(of(1), 1), 1, 2, 1, 1, 1, 1, 1);
                foretold(weighed(of(1), 1), 1, 2, 200, 200, 200, 200, 1);
                foretold(weighed(of(200), 1), 1, 2, 199, 0, 0, 0, 1);
                foretold(weighed(of(200), 1), 1, 2, 200, 1, 1, 1, 1);
                foretold(weighed(of(100), 200), 2, 2, 100, 120, 180, 240, 0);
                foretold(weighed(of(100), 200), 1, 1, 100, 60, 90, 120, 0);
                foretold(weighed(of(100), 200), 1, 3, 100, 180, 270, 360, 0);
                // 10 by 3 and 11 by 3 at height 1 are cut to 3 each; 3 and 4 have a mean of 3.
                foretold(weighed(of(3, 3), 10, 11), 1, 2, 1, 3, 3, 3, 2);
                foretold(weighed(of(100, 100), 3, 4), 1, 2, 100, 3, 3, 4, 2);
                foretold(weighed(of(100, 100, 0, 100), 9, 5, 3000, 0), 1, 2, 100, 5, 7, 9, 2);
                // The greatest sum of all.
                SkipCity most = loads();
                most.drift(0, -50);
                for (int i = 0; i < 60; i++) {
                    most.let(0, 0, 1, 99);
                    most.fetch(i, 0, 1);
                    most.weigh(i, 0, 3000, 0);
                }
                foretold(most, 1, 2, 200, 610000, 610000, 610000, 60);
                due("of it all", most.lost(0, 0, 1), 60 * 3050);
            });
    }

    private static void foretold(SkipCity x, int trade, int size, int height, long least, long mean, long greatest, long n) {
        answers("FORETOLD of TRADE " + trade + ", SIZE " + size + ", height " + height,
            new long[] {least, mean, greatest, n}, what -> x.foretell(trade, size, height, what));
    }

    private static void losing() {
        says("T4", "LOST of a LORRY in a WEEK (DAY by 7): of its LOADS of that WEEK: what is FORETOLD for each (the mean, by all "
            + "other LOADS that are known), less what it weighs (those that are not WEIGHED, as far as is known, weigh 0 if "
            + "the DAY is 14 or more behind the LOAD's, else are left out).", () -> {
                answers("no LOAD", () -> loads(), x -> x.lost(0, 0, 0), 0);
                lost(weighed(of(100), 80), 100, 180, 1);
                lost(weighed(of(100), 180), 0, 180, 1);
                lost(weighed(of(100), 181), -1, 180, 1);
                lost(weighed(of(100), 1), 179, 180, 1);
                lost(weighed(of(100), 3000), -2820, 180, 1);
                // By the other alone: 200 and 100.
                lost(weighed(of(100, 100), 100, 200), 0, 300, 2);
                // By the two others: (200 + 301) / 2, (100 + 301) / 2, (100 + 200) / 2.
                lost(weighed(of(100, 100, 100), 100, 200, 301), 250 + 200 + 150 - 601, 600, 3);
                // Of height 0: 0 by default, and by others.
                lost(weighed(of(0), 7), -7, 0, 1);
                lost(weighed(of(0, 100), 7, 100), 0 + 180 - 107, 180, 2);
                lost(loads(100), 0, 0, 0);
                SkipCity x = loads(100);
                x.pass(13);
                lost(x, 0, 0, 0);
                x.pass(1);
                lost(x, 180, 180, 1);
                x.weigh(0, 0, 5, 14);
                lost(x, 175, 180, 1);
                x.asOf(13);
                lost(x, 180, 180, 1);
                weeksOfLoads();
            });
        says("T4", "It is THIEVING from WEEK w on for n WEEKS, if in each of them it has LOADS that count, and LOST is above 10 "
            + "hundredths of what was FORETOLD.", () -> {
                // 180 are FORETOLD for each: 162 are just 18 less.
                due("above in both", weeks(161, 161).thieving(3, 0, 2), 1);
                due("just 10 hundredths in the first", weeks(162, 161).thieving(3, 0, 2), 0);
                due("just 10 hundredths in the last", weeks(161, 162).thieving(3, 0, 2), 0);
                due("nothing LOST in the last", weeks(161, 180).thieving(3, 0, 2), 0);
                due("more than FORETOLD", weeks(161, 400).thieving(3, 0, 2), 0);
                due("no LOAD in the next", weeks(161).thieving(3, 0, 2), 0);
                due("a LOAD that does not count yet", weeks(161, 0).thieving(3, 0, 2), 0);
                due("a LOAD that counts by now", goOn(weeks(161, 0), 7).thieving(3, 0, 2), 1);
                due("in the middle", weeks(161, 162, 161).thieving(3, 0, 3), 0);
                due("all of three", weeks(161, 161, 161).thieving(3, 0, 3), 1);
                due("from the second on", weeks(170, 161, 161).thieving(3, 1, 2), 1);
                due("one WEEK too many", weeks(161, 161, 161).thieving(3, 0, 4), 0);
                due("another LORRY", weeks(161, 161).thieving(2, 0, 2), 0);
                due("FORETOLD 0", goOn(loads(0, 0), 30).thieving(0, 0, 2), 0);
            });
    }

    private static void lost(SkipCity x, long lost, long foretold, long loads) {
        answers("LOST", new long[] {lost, foretold, loads}, LEAST_INT, what -> x.lost(0, 0, what));
    }

    private static void answers(String of, long[] want, long refusal, java.util.function.IntToLongFunction call) {
        for (int what = 0; what < want.length; what++) {
            due(of + ", what " + what, call.applyAsLong(what), want[what]);
        }
        due(of + ", what -1", call.applyAsLong(-1), refusal);
        due(of + ", what " + want.length, call.applyAsLong(want.length), refusal);
    }

    /** LOADS of DAYS 6, 7, 13, 14 and 399, of another LORRY too. */
    private static void weeksOfLoads() {
        SkipCity x = loads();
        type(x, 0, "d99");
        for (int from = 0; from < 400; from += 99) x.permit(0, from, Math.min(399, from + 98));
        int[] days = {0, 6, 7, 13, 14, 398, 399};
        for (int i = 0; i < days.length; i++) {
            goOn(x, days[i] - x.count(0));
            x.let(0, 0, 1, 399);
            x.fetch(i, i == 3 ? 5 : 2, 100);
            x.weigh(i, 0, 100, days[i]);
        }
        due("WEEK 0", x.lost(2, 0, 2), 2);
        due("WEEK 1", x.lost(2, 1, 2), 1);
        due("WEEK 1, another LORRY", x.lost(5, 1, 2), 1);
        due("WEEK 2", x.lost(2, 2, 2), 1);
        due("WEEK 3", x.lost(2, 3, 2), 0);
        due("WEEK 56", x.lost(2, 56, 2), 1);
        due("WEEK 57", x.lost(2, 57, 2), 1);
    }

    private static SkipCity goOn(SkipCity x, int days) {
        for (int left = days; left > 0; left -= 100) {
            x.pass(Math.min(100, left));
        }
        return x;
    }

    /** LORRY 3 has a LOAD of height 100 in each WEEK, each of a TRADE of its own, with weights (0: not WEIGHED). */
    private static SkipCity weeks(int... weights) {
        SkipCity x = loads();
        for (int i = 0; i < weights.length; i++) {
            x.permit(0, 7 * i, 7 * i);
            x.let(0, 0, i, 399);
            x.fetch(i, 3, 100);
            if (weights[i] > 0) x.weigh(i, 0, weights[i], 7 * i);
            x.pass(7);
        }
        return x;
    }

    private static void weighCalls() {
        says("26", "`int weigh(int let, int tip, int weight, int told)`: WEIGHED: 1.", () -> {
            SkipCity x = one();
            due("weigh", x.weigh(0, 1, 240, 3), 1);
            answers("WEIGHED", new long[] {240, 1, 3}, what -> x.weighs(0, what));
            due("known", x.count(7), 1);
        });
        says("26", "BAD: weight, DAY; NOT: the LET has no LOAD, a DAY that may not be, not later than the one told before; "
            + "FULL: it was WEIGHED 4 times.", () -> {
                refusedAt("LET", WeightsEdges::one, (x, v) -> x.weigh(v, 0, 9, 8), BAD, -1, 2, LEAST_INT, MOST_INT);
                refusedAt("TIP", WeightsEdges::one, (x, v) -> x.weigh(0, v, 9, 8), BAD, -1, 2, LEAST_INT, MOST_INT);
                refusedAt("weight", WeightsEdges::one, (x, v) -> x.weigh(0, 0, v, 8), BAD, 0, 3001, -1, LEAST_INT, MOST_INT);
                refusedAt("DAY", WeightsEdges::one, (x, v) -> x.weigh(0, 0, 9, v), BAD, -1, 400, LEAST_INT, MOST_INT);
                badAheadOf("no LOAD", WeightsEdges::one, 1, 8, NOT);
                badAheadOf("ahead of the LOAD's DAY", WeightsEdges::one, 0, 2, NOT);
                badAheadOf("behind the DAY", WeightsEdges::one, 0, 9, NOT);
                badAheadOf("the DAY told before", told(5), 0, 5, NOT);
                badAheadOf("ahead of the DAY told before", told(5), 0, 4, NOT);
                answers("the fourth time", told(3, 4, 5), x -> x.weigh(0, 0, 9, 6), 1);
                badAheadOf("WEIGHED 4 times", told(3, 4, 5, 6), 0, 7, FULL);
                badAheadOf("the DAY told before ahead of FULL", told(3, 4, 5, 6), 0, 6, NOT);
                badAheadOf("behind the DAY ahead of FULL", told(3, 4, 5, 6), 0, 9, NOT);
                badAheadOf("ahead of the LOAD's DAY ahead of FULL", told(3, 4, 5, 6), 0, 2, NOT);
            });
        says("27", "`int asOf(int day)`: AS OF a DAY (NONE: all): what it was.", () -> {
            SkipCity x = new SkipCity();
            due("at first all", x.asOf(0), -1);
            due("DAY 0", x.asOf(399), 0);
            due("DAY 399", x.asOf(-1), 399);
            due("all", x.asOf(-1), -1);
        });
        says("27", "BAD.", () -> {
            refusedAt("DAY", Town::made, (x, v) -> x.asOf(v), BAD, -2, 400, LEAST_INT, MOST_INT);
            refusedAt("DAY", after(Town::made, x -> x.asOf(1)), (x, v) -> x.asOf(v), BAD, -2, 400);
        });
    }

    private static void badAheadOf(String what, Supplier<SkipCity> made, int let, int day, int want) {
        refused(what, made, x -> x.weigh(let, 0, 9, day), want);
        refused("BAD TIP ahead of: " + what, made, x -> x.weigh(let, 2, 9, day), BAD);
        refused("BAD weight ahead of: " + what, made, x -> x.weigh(let, 0, 0, day), BAD);
        refused("BAD weight ahead of: " + what, made, x -> x.weigh(let, 0, 3001, day), BAD);
    }

    private static void askCalls() {
        Supplier<SkipCity> known = told(5, 7);
        says("28", "`int weighs(int let, int what)`: What a LOAD weighs, as far as is known (what = 0), the TIP (1), the DAY it "
            + "was told (2).", () -> {
                SkipCity x = one();
                x.weigh(0, 1, 1, 3);
                answers("once", new long[] {1, 1, 3}, what -> x.weighs(0, what));
                x.weigh(0, 0, 3000, 8);
                answers("twice", new long[] {3000, 0, 8}, what -> x.weighs(0, what));
                x.asOf(7);
                answers("as of 7", new long[] {1, 1, 3}, what -> x.weighs(0, what));
            });
        says("28", "BAD; NOT: no LOAD, or not known.", () -> {
            refusedAt("LET", known, (x, v) -> x.weighs(v, 0), BAD, -1, 2, LEAST_INT, MOST_INT);
            refusedAt("what", known, (x, v) -> x.weighs(0, v), BAD, -1, 3, LEAST_INT, MOST_INT);
            refusedAt("no LOAD, what", known, (x, v) -> x.weighs(1, v), NOT, 0, 1, 2);
            refusedAt("not WEIGHED, what", WeightsEdges::one, (x, v) -> x.weighs(0, v), NOT, 0, 1, 2);
            refusedAt("not known, what", after(known, x -> x.asOf(4)), (x, v) -> x.weighs(0, v), NOT, 0, 1, 2);
            refusedAt("BAD ahead of no LOAD, what", known, (x, v) -> x.weighs(1, v), BAD, -1, 3);
            refusedAt("BAD ahead of not known, what", WeightsEdges::one, (x, v) -> x.weighs(0, v), BAD, -1, 3);
        });
        says("29", "`int over(int let, int what)`: OVER: weight (what = 0; 0 if it is not known), height (1).", () -> {
            SkipCity x = weighed(of(200, 100, 101), 3000, 240, 0);
            answers("both", new long[] {2760, 100}, what -> x.over(0, what));
            answers("neither", new long[] {0, 0}, what -> x.over(1, what));
            answers("not WEIGHED", new long[] {0, 1}, what -> x.over(2, what));
            SkipCity y = told(8).get();
            y.weigh(0, 0, 9, 8);
            y.asOf(7);
            answers("not known", new long[] {0, 0}, what -> y.over(0, what));
        });
        says("29", "BAD; NOT: no LOAD.", () -> {
            refusedAt("LET", known, (x, v) -> x.over(v, 0), BAD, -1, 2, LEAST_INT, MOST_INT);
            refusedAt("what", known, (x, v) -> x.over(0, v), BAD, -1, 2, LEAST_INT, MOST_INT);
            refusedAt("no LOAD, what", known, (x, v) -> x.over(1, v), NOT, 0, 1);
            refusedAt("BAD ahead of no LOAD, what", known, (x, v) -> x.over(1, v), BAD, -1, 2);
        });
        says("30", "`int foretell(int trade, int size, int height, int what)`: FORETOLD: 0 the least, 1 the mean, 2 the greatest, "
            + "3 of how many LOADS.", () -> {
                foretold(weighed(of(100, 100, 100), 10, 30, 21), 1, 2, 100, 10, 20, 30, 3);
                foretold(loads(), 5, 12, 200, 1440, 2160, 2880, 0);
                foretold(loads(), 0, 1, 1, 0, 0, 1, 0);
            });
        says("30", "BAD: height 1 to 200.", () -> {
            refusedAt("height", Town::made, (x, v) -> x.foretell(1, 4, v, 1), BAD, 0, 201, -1, LEAST_INT, MOST_INT);
            refusedAt("TRADE", Town::made, (x, v) -> x.foretell(v, 4, 9, 1), BAD, -1, 6, LEAST_INT, MOST_INT);
            refusedAt("SIZE", Town::made, (x, v) -> x.foretell(1, v, 9, 1), BAD, 0, 13, -1, LEAST_INT, MOST_INT);
            refusedAt("what", Town::made, (x, v) -> x.foretell(1, 4, 9, v), BAD, -1, 4, LEAST_INT, MOST_INT);
            range("height", SkipCity::new, 1, 200, (x, v) -> x.foretell(0, 1, v, 2), 1, 240, BAD);
            range("TRADE", SkipCity::new, 0, 5, (x, v) -> x.foretell(v, 1, 100, 0), 60);
            range("SIZE", SkipCity::new, 1, 12, (x, v) -> x.foretell(0, v, 100, 0), 60, 720, BAD);
        });
    }

    private static void lorryCalls() {
        says("31", "`int lost(int lorry, int week, int what)`: Of a LORRY in a WEEK (0 to 57): 0 LOST, 1 FORETOLD in all, 2 how "
            + "many LOADS count.", () -> {
                lost(weighed(of(100, 100, 100), 100, 100, 0), 0, 200, 2);
                SkipCity x = weighed(of(100, 200), 50, 70);
                answers("LOST", new long[] {35 + 100 - 120, 135, 2}, LEAST_INT, what -> x.lost(0, 0, what));
                for (int lorry = 1; lorry <= 5; lorry++) {
                    due("another LORRY", x.lost(lorry, 0, 2), 0);
                }
            });
        says("31", "BAD: the least int.", () -> {
            refusedAt("LORRY", Town::made, (x, v) -> x.lost(v, 0, 0), LEAST_INT, -1, 6, LEAST_INT, MOST_INT);
            refusedAt("WEEK", Town::made, (x, v) -> x.lost(0, v, 0), LEAST_INT, -1, 58, LEAST_INT, MOST_INT);
            refusedAt("what", Town::made, (x, v) -> x.lost(0, 0, v), LEAST_INT, -1, 3, LEAST_INT, MOST_INT);
            range("LORRY", SkipCity::new, 0, 5, (x, v) -> x.lost(v, 0, 0), 0, 0, LEAST_INT);
            range("WEEK", SkipCity::new, 0, 57, (x, v) -> x.lost(0, v, 0), 0, 0, LEAST_INT);
            range("what", SkipCity::new, 0, 2, (x, v) -> x.lost(0, 0, v), 0, 0, LEAST_INT);
        });
        says("32", "`int thieving(int lorry, int week, int n)`: Whether it is THIEVING from a WEEK on for n WEEKS (2 to 20): 1, "
            + "0.", () -> {
                due("it is", weeks(9, 9).thieving(3, 0, 2), 1);
                due("it is not", weeks(9, 180).thieving(3, 0, 2), 0);
                range("WEEKS", () -> weeks(9, 9), 2, 20, (x, v) -> x.thieving(3, 0, v), 1, 0, BAD);
                due("for 20 WEEKS", twenty(20).thieving(3, 0, 20), 1);
                due("for 20 WEEKS, but for the last", twenty(19).thieving(3, 0, 20), 0);
            });
        says("32", "BAD: also beyond WEEK 57.", () -> {
            refusedAt("LORRY", Town::made, (x, v) -> x.thieving(v, 0, 2), BAD, -1, 6, LEAST_INT, MOST_INT);
            refusedAt("WEEK", Town::made, (x, v) -> x.thieving(1, v, 2), BAD, -1, 57, 58, LEAST_INT, MOST_INT);
            refusedAt("WEEKS", Town::made, (x, v) -> x.thieving(1, 0, v), BAD, 1, 21, 0, -1, LEAST_INT, MOST_INT);
            ToLongFunction<SkipCity> last = x -> x.thieving(0, 56, 2);
            answers("the last two WEEKS", SkipCity::new, last, 0);
            answers("the last 20 WEEKS", SkipCity::new, x -> x.thieving(0, 38, 20), 0);
            refused("one beyond", SkipCity::new, x -> x.thieving(0, 39, 20), BAD);
            refused("one beyond", SkipCity::new, x -> x.thieving(0, 56, 3), BAD);
            range("WEEK", SkipCity::new, 0, 56, (x, v) -> x.thieving(0, v, 2), 0);
        });
    }

    /** LORRY 3 has a LOAD that was never WEIGHED in each of so many WEEKS, of height 100. */
    private static SkipCity twenty(int weeks) {
        SkipCity x = loads();
        for (int i = 0; i < weeks; i++) {
            x.permit(0, 7 * i, 7 * i);
            x.let(0, 0, 1, 399);
            x.fetch(i, 3, 100);
            x.pass(7);
        }
        return goOn(x, 14);
    }
}
