import java.util.function.Supplier;

/** Promises 1 to 11: a new object, and the city. */
final class CityTest extends Case {
    static void run() {
        newObject();
        pass();
        holiday();
        kerb();
        refuse();
        about();
        skip();
        where();
        tip();
        drift();
        permit();
    }

    private static void newObject() {
        SkipCity x = new SkipCity();
        for (int what = 0; what <= 11; what++) {
            due("new: count(" + what + ")", x.count(what), 0);
        }
        for (int s = 0; s <= 3; s++) {
            due("new: lose", x.lose(s), -11);
        }
        due("new: lapsed", x.lapsed(), 0);
        due("new: forgotten", x.forgotten(0), 0);
        due("new: asOf", x.asOf(-1), -1);
        due("new: reach", x.reach(400), 400);
        due("new: plan", x.plan(3), 0);
        due("new: bound", x.bound(), 0);
        due("new: holiday", x.holiday(0, false), 0);
        long h = 17;
        for (int i = 0; i < 11; i++) {
            h = 31 * h;
        }
        for (int i = 0; i < 5; i++) {
            h = 31 * h - 1;
        }
        due("new: digest", x.digest(), 31 * 31 * h);
        due("new: other objects are apart", new SkipCity().kerb(0, 0, 0, 4) + new SkipCity().kerb(0, 0, 0, 4), 0);
    }

    private static void pass() {
        SkipCity x = new SkipCity();
        due("pass(1)", x.pass(1), 1);
        due("pass(100)", x.pass(100), 101);
        due("pass", x.pass(100), 201);
        due("pass", x.pass(100), 301);
        due("pass above 399", x.pass(99), -2);
        due("count(0)", x.count(0), 301);
        due("pass to 399", x.pass(98), 399);
        due("pass at 399", x.pass(1), -2);
        due("count(0)", x.count(0), 399);
        refused("pass(0)", Town::made, t -> t.pass(0), -2);
        refused("pass(-1)", Town::made, t -> t.pass(-1), -2);
        refused("pass(101)", Town::made, t -> t.pass(101), -2);
        refused("pass(most)", Town::made, t -> t.pass(Integer.MAX_VALUE), -2);
        refused("pass(least)", Town::made, t -> t.pass(Integer.MIN_VALUE), -2);
    }

    private static void holiday() {
        SkipCity x = new SkipCity();
        due("holiday(0, true)", x.holiday(0, true), 1);
        due("holiday(399, true)", x.holiday(399, true), 1);
        due("holiday again", x.holiday(399, true), 0);
        due("count(11)", x.count(11), 2);
        due("no holiday", x.holiday(399, false), 1);
        due("no holiday again", x.holiday(399, false), 0);
        due("count(11)", x.count(11), 1);
        x.pass(10);
        due("holiday behind", x.holiday(3, true), 1);
        refused("holiday(-1)", Town::made, t -> t.holiday(-1, true), -2);
        refused("holiday(400)", Town::made, t -> t.holiday(400, true), -2);
        refused("holiday(400, false)", Town::made, t -> t.holiday(400, false), -2);
        refused("holiday so already", Town::made, t -> t.holiday(8, true), 0);
    }

    private static void kerb() {
        SkipCity x = new SkipCity();
        due("kerb least", x.kerb(0, 0, 0, 4), 0);
        due("kerb greatest", x.kerb(3, 99, 99, 60), 1);
        due("its borough", x.about(1, 0), 3);
        for (int i = 2; i < 24; i++) {
            due("kerb", x.kerb(1, i, 2, 9), i);
        }
        due("kerb full", x.kerb(1, 0, 0, 9), -4);
        due("kerb bad before full", x.kerb(4, 0, 0, 9), -2);
        due("count(1)", x.count(1), 24);
        due("kerb 23", x.about(23, 1), 23);
        refused("kerb full", CityTest::fullOfKerbs, t -> t.kerb(1, 0, 0, 9), -4);
        int[][] bad = {{-1, 0, 0, 9}, {4, 0, 0, 9}, {0, -1, 0, 9}, {0, 100, 0, 9}, {0, 0, -1, 9}, {0, 0, 100, 9},
            {0, 0, 0, 3}, {0, 0, 0, 61}};
        for (int[] b : bad) {
            refused("kerb bad", Town::made, t -> t.kerb(b[0], b[1], b[2], b[3]), -2);
        }
    }

    private static SkipCity fullOfKerbs() {
        SkipCity x = new SkipCity();
        for (int i = 0; i < 24; i++) {
            x.kerb(0, 0, 0, 9);
        }
        return x;
    }

    private static void refuse() {
        SkipCity x = Town.made();
        due("refuse", x.refuse(0, true), 1);
        due("refused already", x.refuse(0, true), 0);
        due("about 4", x.about(0, 4), 1);
        due("refuse not", x.refuse(0, false), 1);
        due("not refused already", x.refuse(0, false), 0);
        due("about 4", x.about(0, 4), 0);
        due("others are not", x.about(1, 4), 0);
        due("kerb 2 is", x.about(2, 4), 1);
        refused("refuse(-1)", Town::made, t -> t.refuse(-1, true), -2);
        refused("refuse(4)", Town::made, t -> t.refuse(4, true), -2);
        refused("refuse so already", Town::made, t -> t.refuse(2, true), 0);
    }

    private static void about() {
        SkipCity x = Town.made();
        answers("about kerb 0", new long[] {0, 40, 50, 24, 0, 16, 1}, what -> x.about(0, what));
        answers("about kerb 1", new long[] {1, 60, 55, 10, 0, 10, 1}, what -> x.about(1, what));
        answers("about kerb 2", new long[] {2, 10, 90, 60, 1, 60, 1}, what -> x.about(2, what));
        answers("about kerb 3", new long[] {3, 99, 0, 30, 0, 30, 0}, what -> x.about(3, what));
        SkipCity y = new SkipCity();
        y.kerb(0, 1, 2, 30);
        y.permit(0, 2, 3);
        int[] has = {0, 0, 1, 1, 0};
        for (int day = 0; day < 5; day++) {
            due("permit on " + day, y.about(0, 6), has[day]);
            y.pass(1);
        }
        for (int i = 0; i < 4; i++) {
            y.pass(i < 3 ? 100 : 94);
        }
        due("count(0)", y.count(0), 399);
        due("no permit on 399", y.about(0, 6), 0);
        y.permit(0, 399, 399);
        due("permit on 399", y.about(0, 6), 1);
        for (int what : new int[] {-1, 7, Integer.MAX_VALUE, Integer.MIN_VALUE}) {
            refused("about what", Town::made, t -> t.about(0, what), -2);
        }
        refused("about(-1)", Town::made, t -> t.about(-1, 0), -2);
        refused("about(4)", Town::made, t -> t.about(4, 0), -2);
    }

    private static void skip() {
        SkipCity x = new SkipCity();
        due("skip(1)", x.skip(1), 0);
        due("skip(12)", x.skip(12), 1);
        for (int i = 2; i < 40; i++) {
            due("skip", x.skip(5), i);
        }
        due("skip bad before full", x.skip(0), -2);
        due("skip full", x.skip(5), -4);
        due("count(2)", x.count(2), 40);
        due("count(3)", x.count(3), 40);
        refused("skip(0)", Town::made, t -> t.skip(0), -2);
        refused("skip(13)", Town::made, t -> t.skip(13), -2);
    }

    private static void where() {
        SkipCity x = Town.made();
        answers("skip 0", new long[] {4, -1, -1}, what -> x.where(0, what));
        answers("skip 2", new long[] {4, 0, 2}, what -> x.where(2, what));
        answers("skip 4", new long[] {12, -1, -1}, what -> x.where(4, what));
        x.fetch(2, 0, 1);
        answers("skip 2 fetched", new long[] {4, -1, -1}, what -> x.where(2, what));
        refused("where(-1)", Town::made, t -> t.where(-1, 0), -2);
        refused("where(5)", Town::made, t -> t.where(5, 0), -2);
        refused("where what -1", Town::made, t -> t.where(0, -1), -2);
        refused("where what 3", Town::made, t -> t.where(0, 3), -2);
    }

    private static void tip() {
        SkipCity x = new SkipCity();
        due("tip least", x.tip(0, 0, 1, 0, 0, 0), 0);
        due("tip greatest", x.tip(99, 99, 63, 23, 23, 500), 1);
        for (int i = 2; i < 6; i++) {
            due("tip", x.tip(1, 1, 1, 1, 1, 1), i);
        }
        due("tip bad before full", x.tip(1, 1, 0, 1, 1, 1), -2);
        due("tip full", x.tip(1, 1, 1, 1, 1, 1), -4);
        due("count(4)", x.count(4), 6);
        int[][] bad = {{-1, 0, 1, 0, 0, 0}, {100, 0, 1, 0, 0, 0}, {0, -1, 1, 0, 0, 0}, {0, 100, 1, 0, 0, 0},
            {0, 0, 0, 0, 0, 0}, {0, 0, 64, 0, 0, 0}, {0, 0, -1, 0, 0, 0}, {0, 0, 1, -1, 0, 0}, {0, 0, 1, 0, 24, 0},
            {0, 0, 1, 24, 24, 0}, {0, 0, 1, 5, 4, 0}, {0, 0, 1, 0, 0, -1}, {0, 0, 1, 0, 0, 501}};
        for (int[] b : bad) {
            refused("tip bad", Town::made, t -> t.tip(b[0], b[1], b[2], b[3], b[4], b[5]), -2);
        }
        Supplier<SkipCity> full = () -> {
            SkipCity t = Town.made();
            for (int i = 0; i < 3; i++) {
                t.tip(1, 1, 1, 1, 1, 1);
            }
            return t;
        };
        refused("tip full", full, t -> t.tip(1, 1, 1, 1, 1, 1), -4);
    }

    private static void drift() {
        SkipCity x = Town.made();
        due("drift at first", x.drift(0, 50), 0);
        due("drift", x.drift(0, -50), 50);
        due("drift", x.drift(0, 0), -50);
        due("drift of another", x.drift(1, 1), 5);
        refused("drift(-1)", Town::made, t -> t.drift(-1, 0), -1000);
        refused("drift(3)", Town::made, t -> t.drift(3, 0), -1000);
        refused("drift 51", Town::made, t -> t.drift(0, 51), -1000);
        refused("drift -51", Town::made, t -> t.drift(0, -51), -1000);
    }

    private static void permit() {
        SkipCity x = Town.made();
        due("permit of one day", x.permit(3, 399, 399), 3);
        due("permit of 14 days", x.permit(3, 0, 13), 4);
        due("permit of 30 days by law", x.permit(1, 370, 399), 5);
        due("count(5)", x.count(5), 6);
        due("it holds now", x.about(3, 6), 1);
        refused("permit 15 days", Town::made, t -> t.permit(3, 0, 14), -3);
        refused("permit 31 days", Town::made, t -> t.permit(1, 0, 30), -3);
        refused("permit all days", Town::made, t -> t.permit(1, 0, 399), -3);
        int[][] bad = {{-1, 0, 0}, {4, 0, 0}, {0, -1, 0}, {0, 400, 400}, {0, 390, 400}, {0, 3, 2}, {0, 0, -1},
            {4, 0, 20}};
        for (int[] b : bad) {
            refused("permit bad", Town::made, t -> t.permit(b[0], b[1], b[2]), -2);
        }
        Supplier<SkipCity> full = () -> {
            SkipCity t = Town.made();
            for (int i = 3; i < 60; i++) {
                t.permit(3, 200, 200);
            }
            return t;
        };
        due("permit 59", full.get().count(5), 60);
        refused("permit full", full, t -> t.permit(3, 0, 0), -4);
        refused("permit not before full", full, t -> t.permit(3, 0, 14), -3);
        refused("permit bad before full", full, t -> t.permit(3, 1, 0), -2);
    }
}
