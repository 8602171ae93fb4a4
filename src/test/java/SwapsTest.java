import java.util.function.Supplier;

/** Promises 39 to 45: swaps. */
final class SwapsTest extends Case {
    static void run() {
        task();
        clear();
        reach();
        plan();
        planOfLikeOnes();
        planAnew();
        tour();
        miles();
        bound();
    }

    private static SkipCity city() {
        SkipCity x = new SkipCity();
        x.kerb(0, 50, 60, 30);
        x.kerb(0, 50, 80, 30);
        x.kerb(0, 20, 50, 30);
        x.kerb(1, 90, 50, 30);
        x.tip(50, 70, 1, 6, 18, 0);
        x.tip(30, 50, 3, 6, 18, 0);
        return x;
    }

    private static void task() {
        SkipCity x = city();
        due("task least", x.task(0, 1, 0), 1);
        due("task greatest", x.task(3, 12, 5), 2);
        for (int i = 3; i <= 6; i++) {
            due("task", x.task(1, 3, 1), i);
        }
        due("task bad before full", x.task(4, 3, 1), -2);
        due("task full", x.task(1, 3, 1), -4);
        due("count(9)", x.count(9), 6);
        int[][] bad = {{-1, 1, 0}, {4, 1, 0}, {0, 0, 0}, {0, 13, 0}, {0, 1, -1}, {0, 1, 6}};
        for (int[] b : bad) {
            refused("task bad", Town::made, t -> t.task(b[0], b[1], b[2]), -2);
        }
        Supplier<SkipCity> full = () -> {
            SkipCity t = Town.made();
            for (int i = 2; i < 6; i++) {
                t.task(0, 4, 0);
            }
            return t;
        };
        refused("task full", full, t -> t.task(0, 4, 0), -4);
    }

    private static void clear() {
        SkipCity x = city();
        due("clear none", x.clear(), 0);
        x.task(0, 4, 0);
        x.task(1, 4, 0);
        due("plan", x.plan(1), 60);
        due("clear", x.clear(), 2);
        due("plan of none", x.plan(1), 0);
        x.reach(50);
        due("count(9)", x.count(9), 0);
        due("plan of none", x.plan(1), 0);
        due("reach stays", x.reach(400), 50);
        due("task after", x.task(0, 4, 0), 1);
    }

    private static void reach() {
        SkipCity x = city();
        due("reach at first", x.reach(1), 400);
        due("reach", x.reach(2000), 1);
        due("reach", x.reach(40), 2000);
        x.task(0, 4, 0);
        due("just within", x.plan(1), 40);
        x.reach(39);
        due("just beyond", x.plan(1), -3);
        x.reach(40);
        due("within again", x.plan(1), 40);
        refused("reach(0)", Town::made, t -> t.reach(0), -2);
        refused("reach(-1)", Town::made, t -> t.reach(-1), -2);
        refused("reach(2001)", Town::made, t -> t.reach(2001), -2);
    }

    private static void plan() {
        SkipCity x = city();
        due("plan of none", x.plan(1) + x.plan(2) + x.plan(3), 0);
        x.task(0, 4, 0);
        due("plan of one", x.plan(1), 40);
        x.task(1, 4, 0);
        due("of the same size, in a row", x.plan(1), 60);
        due("with two lorries the same", x.plan(2), 60);
        x.clear();
        x.task(0, 4, 0);
        x.task(1, 5, 0);
        due("of unlike sizes, over the yard", x.plan(1), 100);
        x.reach(60);
        due("neither alone beyond", x.plan(1), -3);
        due("with two", x.plan(2), 100);
        x.reach(59);
        due("one beyond", x.plan(3), -3);
        x.reach(400);
        x.task(0, 4, 2);
        due("a task without a tip", x.plan(3), -3);
        x.tip(50, 50, 4, 13, 23, 0);
        due("a tip that opens behind noon", x.plan(3), -3);
        x.tip(50, 50, 4, 0, 11, 0);
        due("a tip that closes ahead of noon", x.plan(3), -3);
        x.tip(50, 50, 4, 12, 12, 0);
        // 60 for TASK 1; 10 + 20 + 10 for TASK 0 and then TASK 2, whose TIP is at THE YARD.
        due("a tip that is open at noon", x.plan(3), 100);
        due("with one", x.plan(1), 100);
        refused("plan(0)", Town::made, t -> t.plan(0), -2);
        refused("plan(4)", Town::made, t -> t.plan(4), -2);
        refused("plan(-1)", Town::made, t -> t.plan(-1), -2);
        Supplier<SkipCity> short1 = () -> {
            SkipCity t = Town.made();
            t.reach(1);
            return t;
        };
        refused("plan, none", short1, t -> t.plan(1), -3);
        refused("plan bad before not", short1, t -> t.plan(0), -2);
    }

    /** TASKS at one KERB of SIZE 4 cost the same in any row and with any LORRIES, as the TIP is at THE YARD. */
    private static void planOfLikeOnes() {
        SkipCity x = new SkipCity();
        x.kerb(0, 50, 60, 30);
        x.tip(50, 50, 1, 0, 23, 0);
        for (int i = 0; i < 6; i++) {
            x.task(0, 4, 0);
        }
        due("plan", x.plan(3), 120);
        for (int i = 0; i < 6; i++) {
            due("all with lorry 0", x.tour(3, 0, i), i);
        }
        x.reach(80);
        due("four at most", x.plan(2), 120);
        int[] rows = {0, 1, 2, 3, -1};
        int[] second = {4, 5, -1};
        for (int i = 0; i < rows.length; i++) {
            due("tour 0", x.tour(2, 0, i), rows[i]);
        }
        for (int i = 0; i < second.length; i++) {
            due("tour 1", x.tour(2, 1, i), second[i]);
        }
        due("miles 0", x.miles(2, 0), 80);
        due("miles 1", x.miles(2, 1), 40);
        x.reach(40);
        due("two at most, with two", x.plan(2), -3);
        due("two at most", x.plan(3), 120);
        for (int lorry = 0; lorry < 3; lorry++) {
            due("tour", x.tour(3, lorry, 0), 2 * lorry);
            due("tour", x.tour(3, lorry, 1), 2 * lorry + 1);
            due("tour", x.tour(3, lorry, 2), -1);
        }
    }

    /** What was planned is planned anew when something of it changes. */
    private static void planAnew() {
        SkipCity x = city();
        x.task(0, 4, 1);
        due("plan", x.plan(1), 10 + 30 + 20);
        x.tip(50, 60, 2, 0, 23, 0);
        due("with a nearer tip", x.plan(1), 20);
        x.task(1, 4, 0);
        due("with a task more", x.plan(1), 60);
        due("tour", x.tour(1, 0, 0), 0);
        x.clear();
        x.task(1, 4, 0);
        due("with another task", x.plan(1), 60);
        due("tour", x.tour(1, 0, 1), -1);
    }

    private static void tour() {
        SkipCity x = city();
        x.task(1, 4, 0);
        x.task(0, 4, 0);
        due("the nearer kerb first", x.tour(1, 0, 0), 1);
        x.clear();
        x.task(3, 4, 0);
        x.task(2, 4, 1);
        // 3 then 2: 40 + 60 (TIP 1, then KERB 2: 10) ...; 2 then 3: 30 + 10 + 60 + 60 + 40.
        due("plan", x.plan(1), 40 + 60 + 10 + 10 + 20);
        due("tour", x.tour(1, 0, 0), 0);
        due("tour", x.tour(1, 0, 1), 1);
        due("tour ends", x.tour(1, 0, 2), -1);
        due("tour ends", x.tour(1, 0, Integer.MAX_VALUE), -1);
        x.clear();
        x.task(2, 4, 1);
        x.task(3, 4, 0);
        due("the other row", x.tour(1, 0, 0), 1);
        due("the other row", x.tour(1, 0, 1), 0);
        due("a lorry without tasks", x.tour(3, 2, 0), -1);
        int[][] bad = {{0, 0, 0}, {4, 0, 0}, {-1, 0, 0}, {2, 2, 0}, {2, -1, 0}, {3, 3, 0}, {1, 0, -1}, {1, 1, 0}};
        for (int[] b : bad) {
            refused("tour bad", Town::made, t -> t.tour(b[0], b[1], b[2]), -2);
        }
        Supplier<SkipCity> beyond = () -> {
            SkipCity t = Town.made();
            t.reach(1);
            return t;
        };
        refused("tour, no plan", beyond, t -> t.tour(1, 0, 0), -3);
        refused("tour bad before not", beyond, t -> t.tour(1, 0, -1), -2);
    }

    private static void miles() {
        SkipCity x = city();
        due("miles of none", x.miles(3, 2), 0);
        x.task(0, 4, 0);
        x.task(1, 5, 0);
        x.reach(60);
        due("miles 0", x.miles(2, 0), 40);
        due("miles 1", x.miles(2, 1), 60);
        due("miles of a lorry without tasks", x.miles(3, 2), 0);
        due("miles, no plan", x.miles(1, 0), -3);
        int[][] bad = {{0, 0}, {4, 0}, {2, 2}, {1, 1}, {2, -1}, {-1, 0}};
        for (int[] b : bad) {
            refused("miles bad", Town::made, t -> t.miles(b[0], b[1]), -2);
        }
        Supplier<SkipCity> beyond = () -> {
            SkipCity t = Town.made();
            t.reach(1);
            return t;
        };
        refused("miles, no plan", beyond, t -> t.miles(2, 1), -3);
        refused("miles bad before not", beyond, t -> t.miles(2, 2), -2);
    }

    private static void bound() {
        SkipCity x = city();
        due("bound of none", x.bound(), 0);
        x.task(0, 4, 0);
        due("bound of one", x.bound(), 10 + 10 + 20);
        x.task(1, 4, 0);
        x.task(2, 6, 1);
        due("bound of three", x.bound(), 10 + 10 + 10 + 10 + 20);
        x.reach(1);
        due("whatever the reach", x.bound(), 60);
        // Nearer to THE YARD than the others, though farther from each KERB.
        x.tip(55, 52, 1, 12, 12, 0);
        due("from any of these tips", x.bound(), 10 + 10 + 10 + 10 + 7);
        x.tip(50, 50, 8, 12, 12, 0);
        due("not from others", x.bound(), 47);
        x.task(3, 4, 2);
        due("a task without a tip", x.bound(), -3);
        refused("bound, no tip", () -> {
            SkipCity t = Town.made();
            t.task(0, 1, 5);
            return t;
        }, t -> t.bound(), -3);
    }
}
