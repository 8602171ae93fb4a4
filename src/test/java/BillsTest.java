import java.util.function.Supplier;

/** Promises 37 and 38: bills. */
final class BillsTest extends Case {
    static void run() {
        bill();
        billAsKnown();
        billOfOneDay();
        guess();
    }

    private static void bill() {
        SkipCity x = Town.made();
        // 2 DAYS of 7; 1 night of 3 LAMPS; 40 + 2 * 4; 215 over at 40, and 20; 3 of 5 at 100 and 2 at 0; 695 at 500.
        long[] want = {0, 14, 9, 48, 86 + 20, 417, 3475};
        for (int part = 1; part <= 6; part++) {
            want[0] += want[part];
        }
        answers("bill 0", want, what -> x.bill(0, what));
        // 3 DAYS of 5; 2 nights of 2 LAMPS; 40 + 3 * 4; not WEIGHED.
        answers("bill 1", new long[] {15 + 12 + 52, 15, 12, 52, 0, 0, 0}, what -> x.bill(1, what));
        x.weigh(1, 2, 3000, 2);
        answers("bill 1", new long[] {79 + 25174 + 3000, 15, 12, 52, 2520 * 999 / 100, 3000, 0}, what -> x.bill(1, what));
        x.pass(9);
        x.fetch(2, 0, 100);
        due("height 100 is not over", x.bill(2, 4), 0);
        due("its permit, though it lapsed", x.bill(2, 1), 13 * 7);
        type(x, 0, ";");
        answers("bill 0 by law as it is now", new long[] {10 + 6 + 48 + 106 + 417 + 3475, 10, 6, 48, 106, 417, 3475},
            what -> x.bill(0, what));
        refused("bill(-1)", Town::made, t -> t.bill(-1, 0), -2);
        refused("bill(3)", Town::made, t -> t.bill(3, 0), -2);
        refused("bill, no load", Town::made, t -> t.bill(2, 0), -3);
        refused("bill bad before not", Town::made, t -> t.bill(2, 7), -2);
    }

    private static void billAsKnown() {
        SkipCity x = Town.made();
        x.asOf(1);
        // WEIGHED 600 at TIP 0: 120 over at 40; 600 * 3 / 5; 600 at 10.
        answers("bill 0 as of 1", new long[] {71 + 68 + 360 + 60, 14, 9, 48, 68, 360, 60}, what -> x.bill(0, what));
        x.asOf(0);
        answers("bill 0 as of 0", new long[] {71 + 20, 14, 9, 48, 20, 0, 0}, what -> x.bill(0, what));
    }

    private static void billOfOneDay() {
        SkipCity x = new SkipCity();
        x.kerb(3, 1, 1, 30);
        x.skip(12);
        x.permit(0, 0, 0);
        x.tip(1, 1, 1, 1, 1, 333);
        type(x, 3, "c0;o0");
        x.let(0, 0, 0, 0);
        x.fetch(0, 0, 200);
        x.weigh(0, 0, 1441, 0);
        answers("bill", new long[] {132 + 20 + 4798, 0, 0, 132, 20, 0, 4798}, what -> x.bill(0, what));
        x.wipe(3);
        type(x, 3, "o199");
        due("one over at 199", x.bill(0, 4), 21);
    }

    private static void guess() {
        SkipCity x = Town.made();
        // By no other: 90 * 4 * 130 / 100 = 468: not over; 468 at 100 a ton, and at 10.
        due("guess 0", x.guess(0), 14 + 9 + 48 + 20 + 468 + 46);
        due("guess of height 0", x.guess(1), 79);
        x.fetch(2, 0, 100);
        // By LET 0: 695 * 100 / 130 = 534: 54 over at 40; 3 nights of 3 LAMPS, 4 DAYS.
        due("guess 2", x.guess(2), 28 + 27 + 56 + 21 + 534 + 53);
        due("a load that is not weighed counts not", x.guess(0), 605);
        x.weigh(2, 2, 100, 4);
        due("by the other alone", x.guess(2), 719);
        due("by the other, that is weighed now", x.guess(0), 14 + 9 + 48 + 20 + 130 + 13);
        x.asOf(3);
        due("as of 3", x.guess(0), 605);
        x.asOf(1);
        // 600 * 100 / 130 = 461
        due("as of 1", x.guess(2), 28 + 27 + 56 + 461 + 46);
        type(x, 4, ";s0@2=200;s0@5=999");
        due("tax of the day of the load", x.guess(2), 28 + 27 + 56 + 461 * 2 + 46);
        due("without tips", noTips(), 5 + 11 + 90);
        refused("guess(-1)", Town::made, t -> t.guess(-1), -2);
        refused("guess(3)", Town::made, t -> t.guess(3), -2);
        Supplier<SkipCity> made = Town::made;
        refused("guess, no load", made, t -> t.guess(2), -3);
    }

    private static int noTips() {
        SkipCity x = new SkipCity();
        x.kerb(0, 1, 1, 30);
        x.skip(1);
        x.permit(0, 0, 9);
        type(x, 4, "s0=100");
        x.let(0, 0, 0, 9);
        x.fetch(0, 0, 100);
        return x.guess(0);
    }
}
