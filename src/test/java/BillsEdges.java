import java.util.function.Supplier;

/** The edges of bills: terms 6, promises 37 and 38. */
final class BillsEdges extends Edges {
    static void run() {
        bills();
        guesses();
        calls();
    }

    /**
     * LET 0 at KERB 0 (BOROUGH 0, with a LAW) of a SIZE, begun on DAY 0 and FETCHED so many DAYS later with a height;
     * LET 1 stands. TIP 0 has no FEE, TIP 1 one of 250; TAX as told.
     */
    private static SkipCity load(String law, String tax, int size, int days, int height) {
        SkipCity x = new SkipCity();
        x.kerb(0, 40, 50, 60);
        x.tip(20, 50, 63, 0, 23, 0);
        x.tip(20, 50, 63, 0, 23, 250);
        x.permit(0, 0, 13);
        x.skip(size);
        x.skip(size);
        type(x, 0, law);
        type(x, 4, tax);
        x.let(0, 0, 0, 399);
        x.let(1, 0, 1, 399);
        for (int left = days; left > 0; left -= 100) x.pass(Math.min(100, left));
        x.fetch(0, 0, height);
        return x;
    }

    private static SkipCity weighed(SkipCity x, int tip, int weight) {
        x.weigh(0, tip, weight, x.count(0));
        return x;
    }

    private static void bills() {
        says("T6", "BILL of a LET that has a LOAD: PERMIT: cost of a DAY by LAW for each DAY it stood (both ends); LAMPS, 3 coins "
            + "each; the SKIP: SIZE times 10, and SIZE for each DAY it stood; OVER: weight OVER by 100 times o of the LAW, cut, "
            + "and 20 if the height is OVER; TAX; the FEE of the TIP times weight by 100, cut (what is not WEIGHED, as far as "
            + "is known, is left out).", () -> {
                part("one DAY", load("", "", 1, 0, 0), 1, 5);
                part("two DAYS", load("", "", 1, 1, 0), 1, 10);
                part("all DAYS", load("c99", "", 1, 399, 0), 1, 99 * 400);
                part("for nothing", load("c0", "", 1, 399, 0), 1, 0);
                part("no night", load("l9", "", 1, 0, 0), 2, 0);
                part("one night", load("", "", 1, 1, 0), 2, 6);
                part("all nights", load("l9", "", 1, 399, 0), 2, 399 * 27);
                part("no LAMPS", load("l0", "", 1, 399, 0), 2, 0);
                part("SIZE 1, one DAY", load("", "", 1, 0, 0), 3, 11);
                part("SIZE 12, two DAYS", load("", "", 12, 1, 0), 3, 144);
                part("SIZE 12, all DAYS", load("", "", 12, 399, 0), 3, 120 + 4800);
                part("height 100", load("", "", 1, 0, 100), 4, 0);
                part("height 101", load("", "", 1, 0, 101), 4, 20);
                part("height 200", load("", "", 1, 0, 200), 4, 20);
                part("120 SIZE", weighed(load("o999", "", 2, 0, 0), 0, 240), 4, 0);
                part("one above", weighed(load("o999", "", 2, 0, 0), 0, 241), 4, 9);
                part("one above, cut", weighed(load("o99", "", 2, 0, 0), 0, 241), 4, 0);
                part("one above, just a coin", weighed(load("o100", "", 2, 0, 101), 0, 241), 4, 21);
                part("far above, for nothing", weighed(load("o0", "", 1, 0, 101), 0, 3000), 4, 20);
                part("the most above", weighed(load("o999", "", 1, 0, 200), 0, 3000), 4, 28771 + 20);
                part("TAX", weighed(load("", "s0=999", 1, 0, 0), 0, 3000), 5, 29970);
                part("TAX, cut", weighed(load("", "s0=99", 1, 0, 0), 0, 1), 5, 0);
                part("no FEE", weighed(load("", "", 1, 0, 0), 0, 3000), 6, 0);
                part("FEE", weighed(load("", "", 1, 0, 0), 1, 3000), 6, 7500);
                part("FEE, cut", weighed(load("", "", 1, 0, 0), 1, 1), 6, 2);
                notWeighed();
            });
    }

    private static void part(String what, SkipCity x, int part, int want) {
        due(what, x.bill(0, part), want);
        int sum = 0;
        for (int i = 1; i <= 6; i++) sum += x.bill(0, i);
        due(what + ": all together", x.bill(0, 0), sum);
    }

    private static void notWeighed() {
        SkipCity x = load("", "s0=999", 1, 3, 200);
        answers("not WEIGHED", new long[] {20 + 18 + 14 + 20, 20, 18, 14, 20, 0, 0}, what -> x.bill(0, what));
        x.weigh(0, 1, 220, 3);
        long[] all = {20 + 18 + 14 + 60 + 2197 + 550, 20, 18, 14, 60, 2197, 550};
        answers("WEIGHED", all, what -> x.bill(0, what));
        x.asOf(2);
        answers("not known", new long[] {20 + 18 + 14 + 20, 20, 18, 14, 20, 0, 0}, what -> x.bill(0, what));
        x.asOf(3);
        answers("known", all, what -> x.bill(0, what));
        x.pass(100);
        answers("later", all, what -> x.bill(0, what));
        x.weigh(0, 0, 120, 9);
        x.asOf(9);
        answers("as of the later one", new long[] {20 + 18 + 14 + 20 + 1198, 20, 18, 14, 20, 1198, 0}, what -> x.bill(0, what));
        x.asOf(8);
        answers("as of the one before", all, what -> x.bill(0, what));
    }

    private static void guesses() {
        says("T6", "GUESS: what the BILL would be by the mean FORETOLD (as FORETOLD for its height, by all other LOADS), with all "
            + "of it SORT 0, at TIP 0 (FEE 0 without TIPS).", () -> {
                // 5 for the PERMIT and 11 for the SKIP; 90 SIZE by 100 times the height are FORETOLD.
                due("height 0", load("", "s0=100", 1, 0, 0).guess(0), 16);
                due("height 1", load("", "s0=999", 1, 0, 1).guess(0), 16);
                due("height 100", load("", "s0=100", 1, 0, 100).guess(0), 16 + 90);
                due("height 133: 119", load("", "s0=100", 1, 0, 133).guess(0), 16 + 20 + 119);
                due("height 134: 120 are not OVER", load("o999", "s0=100", 1, 0, 134).guess(0), 16 + 20 + 120);
                due("height 135: 121 are", load("o999", "s0=100", 1, 0, 135).guess(0), 16 + 20 + 121 + 9);
                due("height 200", load("o100", "", 1, 0, 200).guess(0), 16 + 20 + 60);
                due("not by its own weight", weighed(load("", "s0=100", 1, 0, 100), 1, 3000).guess(0), 16 + 90);
                SkipCity x = load("", "s0=100;s1=999", 1, 0, 100);
                x.sheet(0, 0, 6);
                x.put(0, 0, 1, 1);
                x.draw(0, 1, 0);
                due("all of SORT 0, though DRAWN of SORT 1", x.guess(0), 16 + 90);
                byOthers();
                mostForetold();
                due("no TIPS", noTips().guess(0), 16 + 90);
                SkipCity fee = noTips();
                fee.tip(0, 0, 32, 23, 23, 101);
                fee.tip(0, 0, 63, 0, 23, 500);
                due("at TIP 0", fee.guess(0), 16 + 90 + 90);
            });
    }

    private static void byOthers() {
        SkipCity x = load("", "s0=100", 1, 0, 100);
        x.let(0, 0, 0, 399);
        x.fetch(2, 0, 50);
        due("by none that is WEIGHED", x.guess(0), 16 + 90);
        x.weigh(2, 0, 7, 0);
        due("by the other", x.guess(0), 16 + 14);
        due("the other by none", x.guess(2), 16 + 45);
        x.let(0, 0, 0, 399);
        x.fetch(3, 0, 100);
        x.weigh(3, 0, 17, 0);
        due("by the mean of two, cut", x.guess(0), 16 + 15);
        x.let(0, 0, 0, 399);
        x.fetch(4, 0, 0);
        x.weigh(4, 0, 3000, 0);
        due("height 0 aside", x.guess(0), 16 + 15);
        x.let(0, 0, 1, 399);
        x.fetch(5, 0, 100);
        x.weigh(5, 0, 3000, 0);
        due("another TRADE aside", x.guess(0), 16 + 15);
        SkipCity y = load("", "s0=100", 1, 0, 100);
        y.let(0, 0, 0, 399);
        y.fetch(2, 0, 100);
        y.pass(1);
        y.weigh(2, 0, 7, 1);
        due("known", y.guess(0), 16 + 7);
        y.asOf(0);
        due("not known", y.guess(0), 16 + 90);
    }

    /** 3050 by a height of 1, times 200: no sum of it may wrap. */
    private static void mostForetold() {
        SkipCity x = new SkipCity();
        x.kerb(0, 0, 0, 60);
        x.tip(0, 0, 63, 0, 23, 500);
        x.drift(0, -50);
        x.permit(0, 0, 0);
        x.skip(1);
        type(x, 0, "o999");
        type(x, 4, "s0=999");
        x.let(0, 0, 0, 0);
        x.fetch(0, 0, 1);
        x.weigh(0, 0, 3000, 0);
        x.let(0, 0, 0, 0);
        x.fetch(1, 0, 200);
        due("FORETOLD", x.foretell(0, 1, 200, 1), 610000);
        due("the most", x.guess(1), 16 + 20 + 609880 / 100 * 999 + 80 * 999 / 100 + 6100 * 999 + 6100 * 500);
    }

    private static SkipCity noTips() {
        SkipCity x = new SkipCity();
        x.kerb(0, 0, 0, 60);
        x.permit(0, 0, 0);
        x.skip(1);
        type(x, 4, "s0=100");
        x.let(0, 0, 0, 0);
        x.fetch(0, 0, 100);
        return x;
    }

    private static void calls() {
        Supplier<SkipCity> made = () -> weighed(load("", "s0=100", 1, 3, 101), 1, 220);
        says("37", "`int bill(int let, int what)`: Of a BILL: 0 all, 1 PERMIT, 2 LAMPS, 3 the SKIP, 4 OVER, 5 TAX, 6 FEE.", () -> {
            SkipCity x = made.get();
            answers("BILL", new long[] {20 + 18 + 14 + 60 + 220 + 550, 20, 18, 14, 60, 220, 550}, what -> x.bill(0, what));
        });
        says("37", "BAD; NOT: no LOAD.", () -> {
            refusedAt("LET", made, (x, v) -> x.bill(v, 0), BAD, -1, 2, LEAST_INT, MOST_INT);
            refusedAt("what", made, (x, v) -> x.bill(0, v), BAD, -1, 7, LEAST_INT, MOST_INT);
            refusedAt("no LOAD, what", made, (x, v) -> x.bill(1, v), NOT, 0, 1, 2, 3, 4, 5, 6);
            refusedAt("BAD ahead of no LOAD, what", made, (x, v) -> x.bill(1, v), BAD, -1, 7);
        });
        says("38", "`int guess(int let)`: GUESS.", () -> {
            answers("GUESS", made, x -> x.guess(0), 20 + 18 + 14 + 20 + 90);
            answers("the least", () -> load("c0;l0", "", 1, 0, 0), x -> x.guess(0), 11);
        });
        says("38", "BAD; NOT: no LOAD.", () -> {
            refusedAt("LET", made, (x, v) -> x.guess(v), BAD, -1, 2, LEAST_INT, MOST_INT);
            refused("no LOAD", made, x -> x.guess(1), NOT);
        });
    }
}
