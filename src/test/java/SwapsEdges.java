import java.util.function.Supplier;

/** The edges of a day's swaps: terms 7 (but for sheets), promises 39 to 45. */
final class SwapsEdges extends Edges {
    static void run() {
        ways();
        plans();
        likeOnes();
        calls();
    }

    /** KERBS 0 to 4 are 10, 20, 30, 40, 49 MILES right of THE YARD, KERB 5 is a MILE left of it. */
    private static SkipCity noTips() {
        SkipCity x = new SkipCity();
        for (int i = 1; i <= 5; i++) x.kerb(0, Math.min(99, 50 + 10 * i), 50, 60);
        x.kerb(0, 49, 50, 60);
        return x;
    }

    /** The same with a TIP of all SORTS at THE YARD. */
    private static SkipCity road() {
        SkipCity x = noTips();
        x.tip(50, 50, 63, 0, 23, 0);
        return x;
    }

    /** The same with the TIP at KERB 4. */
    private static SkipCity east() {
        SkipCity x = noTips();
        x.tip(99, 50, 63, 0, 23, 0);
        return x;
    }

    /** The same with a TIP of SORT 0 alone at THE YARD. */
    private static SkipCity oneSort() {
        SkipCity x = noTips();
        x.tip(50, 50, 1, 0, 23, 0);
        return x;
    }

    /** TASKS of SORT 0 on the road: KERB, SIZE, and so on. */
    private static SkipCity tasks(int... kerbsAndSizes) {
        return tasks(road(), kerbsAndSizes);
    }

    private static SkipCity tasks(SkipCity x, int... kerbsAndSizes) {
        for (int i = 0; i < kerbsAndSizes.length; i += 2) x.task(kerbsAndSizes[i], kerbsAndSizes[i + 1], 0);
        return x;
    }

    private static Supplier<SkipCity> six() {
        return () -> tasks(0, 4, 0, 4, 0, 4, 0, 4, 0, 4, 0, 4);
    }

    private static Supplier<SkipCity> reach(Supplier<SkipCity> made, int miles) {
        return after(made, x -> x.reach(miles));
    }

    private static void ways() {
        says("T7", "A DAY's SWAPS: TASKS, 6 at most: a KERB, a SIZE, a SORT.", () -> {
            answers("the first TASK", SwapsEdges::road, x -> x.task(0, 4, 0), 1);
            answers("the last TASK", () -> tasks(0, 4, 0, 4, 0, 4, 0, 4, 0, 4), x -> x.task(0, 4, 0), 6);
            refused("one TASK more", six(), x -> x.task(0, 4, 0), FULL);
            range("KERB", SwapsEdges::road, 0, 5, (x, v) -> x.task(v, 4, 0), 1);
            range("SIZE", SwapsEdges::road, 1, 12, (x, v) -> x.task(0, v, 0), 1);
            range("SORT", SwapsEdges::road, 0, 5, (x, v) -> x.task(0, 4, v), 1);
        });
        says("T7", "A LORRY leaves THE YARD with an empty SKIP of the first TASK's SIZE, goes to its KERB, to a TIP that takes the "
            + "SORT and is open at NOON (12), with it, and on: to the next TASK's KERB, if that is of the same SIZE (the "
            + "emptied one is set down there), else to THE YARD and from there to it; at last to THE YARD.", () -> {
                due("one TASK: 10, 10", tasks(0, 4).plan(1), 20);
                SkipCity x = east();
                due("one TASK: 10, 39, 49", tasks(x, 0, 4).plan(1), 98);
                due("the same SIZE: from the TIP to the KERB", tasks(east(), 0, 4, 4, 4).plan(1), 98);
                due("the same SIZE, the least", tasks(east(), 0, 1, 4, 1).plan(1), 98);
                due("another SIZE by one: over THE YARD", tasks(east(), 0, 4, 4, 5).plan(1), 98 + 98);
                due("another SIZE, the least and the greatest", tasks(east(), 0, 1, 4, 12).plan(1), 98 + 98);
                // 4, 4, 5 in that row: 10, 39, 0, 0, 49, then 98.
                due("then another SIZE", tasks(east(), 0, 4, 0, 5, 4, 4).plan(1), 98 + 98);
                due("with two of two SIZES each", tasks(east(), 0, 4, 4, 5, 4, 4, 0, 5).plan(1), 98 + 98);
                openAtNoon();
            });
        says("T7", "TIPS are chosen so that MILES are least; a TASK without any cannot be in a PLAN.", () -> {
            SkipCity x = road();
            x.task(1, 4, 0);
            due("with one TIP", x.plan(1), 40);
            x.tip(80, 50, 1, 0, 23, 0);
            due("a TIP that is no nearer", x.plan(1), 40);
            SkipCity y = new SkipCity();
            y.kerb(0, 50, 60, 60);
            y.kerb(0, 50, 60, 60);
            y.tip(50, 90, 1, 0, 23, 0);
            y.task(0, 4, 0);
            due("the far TIP", y.plan(1), 10 + 30 + 40);
            y.tip(60, 60, 1, 0, 23, 0);
            due("a nearer TIP", y.plan(1), 10 + 10 + 20);
            y.tip(50, 61, 1, 0, 23, 0);
            due("the nearest to the KERB", y.plan(1), 10 + 1 + 11);
            y.tip(50, 55, 1, 0, 23, 0);
            due("one on the way", y.plan(1), 20);
            y.task(1, 4, 0);
            due("the nearest between two KERBS", y.plan(1), 10 + 2 + 10);
            y.tip(50, 60, 2, 0, 23, 0);
            due("a TIP of another SORT", y.plan(1), 22);
            refused("a TASK without a TIP", after(SwapsEdges::oneSort, c -> c.task(0, 4, 1)), c -> c.plan(1), NOT);
            refused("one of two without", after(SwapsEdges::oneSort, c -> c.task(0, 4, 0) + c.task(0, 4, 5)), c -> c.plan(3), NOT);
            refused("no TIP at all", after(SwapsEdges::noTips, c -> c.task(0, 4, 0)), c -> c.plan(3), NOT);
        });
    }

    private static void openAtNoon() {
        int[][] hours = {{0, 11}, {13, 23}, {12, 12}, {0, 12}, {12, 23}, {11, 13}, {0, 23}, {11, 11}, {13, 13}};
        for (int[] h : hours) {
            SkipCity x = noTips();
            x.tip(50, 50, 1, h[0], h[1], 0);
            x.task(0, 4, 0);
            due("a TIP from " + h[0] + " to " + h[1], x.plan(1), h[0] <= 12 && h[1] >= 12 ? 20 : NOT);
        }
    }

    private static void plans() {
        says("T7", "A TOUR is so many TASKS in a row; its MILES are at most REACH (told, 1 to 2000; 400 at first); without TASKS "
            + "they are 0.", () -> {
                // Each TASK at KERB 3 takes 80 MILES, at KERB 4 takes 98.
                answers("just 400, at first", () -> tasks(3, 4, 3, 4, 3, 4, 3, 4, 3, 4), x -> x.plan(1), 400);
                refused("402, at first", () -> tasks(3, 4, 3, 4, 3, 4, 3, 4, 3, 4, 5, 4), x -> x.plan(1), NOT);
                answers("just REACH", reach(() -> tasks(0, 4), 20), x -> x.plan(1), 20);
                refused("a mile more", reach(() -> tasks(0, 4), 19), x -> x.plan(1), NOT);
                range("REACH", SkipCity::new, 1, 2000, (x, v) -> x.reach(v), 400);
                answers("a TOUR of 0 MILES", reach(SwapsEdges::home, 1), x -> x.plan(1), 0);
                answers("a TOUR of 2 MILES", reach(() -> tasks(5, 4), 2), x -> x.plan(1), 2);
                refused("a TOUR of 2 MILES in REACH 1", reach(() -> tasks(5, 4), 1), x -> x.plan(1), NOT);
                answers("six at the corner", reach(SwapsEdges::corner, 2000), x -> x.plan(1), 6 * 200);
                answers("just REACH", reach(SwapsEdges::corner, 1200), x -> x.plan(1), 1200);
                refused("a mile less", reach(SwapsEdges::corner, 1199), x -> x.plan(1), NOT);
                answers("no TASKS", reach(SwapsEdges::road, 1), x -> x.plan(1), 0);
                answers("a LORRY without TASKS", () -> tasks(0, 4), x -> x.miles(2, 1), 0);
            });
        says("T7", "A PLAN: each TASK in one TOUR of the LORRIES 0 .. n - 1 (n 1 to 3).", () -> {
            Supplier<SkipCity> one = reach(six(), 120);
            Supplier<SkipCity> two = reach(six(), 60);
            Supplier<SkipCity> three = reach(six(), 40);
            Supplier<SkipCity> none = reach(six(), 39);
            int[][] want = {{120, 120, 120}, {NOT, 120, 120}, {NOT, NOT, 120}, {NOT, NOT, NOT}};
            int i = 0;
            for (Supplier<SkipCity> made : java.util.List.of(one, two, three, none)) {
                for (int n = 1; n <= 3; n++) {
                    due("with " + n + " of " + (i + 1) + " that are needed", made.get().plan(n), want[i][n - 1]);
                }
                i++;
            }
            range("LORRIES", six(), 1, 3, (x, v) -> x.plan(v), 120);
            eachInOne(one.get(), 1);
            eachInOne(two.get(), 2);
            eachInOne(three.get(), 3);
            eachInOne(one.get(), 3);
        });
    }

    /** A TASK at THE YARD, with a TIP there. */
    private static SkipCity home() {
        SkipCity x = new SkipCity();
        x.kerb(0, 50, 50, 60);
        x.tip(50, 50, 1, 0, 23, 0);
        x.task(0, 1, 0);
        return x;
    }

    private static SkipCity corner() {
        SkipCity x = new SkipCity();
        x.kerb(0, 0, 0, 60);
        x.tip(50, 50, 1, 0, 23, 0);
        return tasks(x, 0, 1, 0, 1, 0, 1, 0, 1, 0, 1, 0, 1);
    }

    private static void eachInOne(SkipCity x, int n) {
        int[] seen = new int[6];
        int miles = 0;
        for (int lorry = 0; lorry < n; lorry++) {
            for (int i = 0; x.tour(n, lorry, i) >= 0; i++) seen[x.tour(n, lorry, i)]++;
            miles += x.miles(n, lorry);
        }
        for (int times : seen) due("each TASK once", times, 1);
        due("MILES of all TOURS", miles, x.plan(n));
    }

    /** The TASKS of each TOUR in THE PLAN with n LORRIES, each TOUR with a / behind it. */
    private static void tours(String what, SkipCity x, int n, String want) {
        StringBuilder all = new StringBuilder();
        for (int lorry = 0; lorry < n; lorry++) {
            for (int i = 0; x.tour(n, lorry, i) >= 0; i++) all.append(x.tour(n, lorry, i));
            all.append('/');
        }
        Checks.due(what, all.toString(), want);
    }

    private static void likeOnes() {
        says("T7", "THE PLAN: of least MILES in all, of like ones with the least LORRIES of TASKS (TASK 0's compared first); each "
            + "LORRY's TASKS in the row with the least MILES, of like ones the least row (its first TASK compared first).",
            () -> {
                tours("all alike", six().get(), 1, "012345/");
                tours("all alike, with two", six().get(), 2, "012345//");
                tours("all alike, with three", six().get(), 3, "012345///");
                tours("at most five", reach(six(), 100).get(), 2, "01234/5/");
                tours("at most three", reach(six(), 60).get(), 2, "012/345/");
                tours("at most two", reach(six(), 40).get(), 3, "01/23/45/");
                tours("at most four of 3", reach(six(), 80).get(), 3, "0123/45//");
                // TASK 0 takes 80, the others 20: LORRY 0 takes what goes with it.
                tours("one far", reach(() -> tasks(3, 4, 0, 4, 0, 4, 0, 4), 100).get(), 2, "01/23/");
                tours("the last far", reach(() -> tasks(0, 4, 0, 4, 0, 4, 3, 4), 100).get(), 2, "012/3/");
                tours("the second far", reach(() -> tasks(0, 4, 3, 4, 0, 4, 0, 4), 100).get(), 2, "01/23/");
                tours("the third alone", reach(() -> tasks(0, 4, 0, 4, 3, 4, 0, 4), 80).get(), 2, "013/2/");
                leastFirst();
                leastRows();
            });
        says("T7", "BOUND of it from below: of each TASK the least MILES from its KERB to a TIP that it may go to, and the least "
            + "MILES from THE YARD to any of their KERBS, and from any of these TIPS to THE YARD.", () -> {
                due("one TASK", tasks(0, 4).bound(), 10 + 10 + 0);
                due("two TASKS", tasks(1, 4, 0, 4).bound(), 20 + 10 + 10 + 0);
                due("two TASKS alike", tasks(1, 4, 1, 4).bound(), 20 + 20 + 20);
                due("six TASKS", tasks(0, 4, 1, 4, 2, 4, 3, 4, 4, 4, 4, 5).bound(), 10 + 20 + 30 + 40 + 49 + 49 + 10);
                due("a TIP far off", tasks(east(), 0, 4).bound(), 39 + 10 + 49);
                SkipCity x = tasks(east(), 4, 4);
                due("a TIP at the KERB", x.bound(), 0 + 49 + 49);
                x.tip(50, 50, 2, 0, 23, 0);
                due("a TIP at THE YARD of another SORT", x.bound(), 98);
                x.tip(50, 50, 1, 0, 11, 0);
                due("a TIP at THE YARD that is shut at NOON", x.bound(), 98);
                x.tip(50, 50, 1, 13, 23, 0);
                due("a TIP at THE YARD that opens behind NOON", x.bound(), 98);
                x.tip(50, 51, 1, 12, 12, 0);
                due("a TIP near THE YARD, not the nearest to the KERB", x.bound(), 0 + 49 + 1);
                x.reach(1);
                due("whatever is in REACH", x.bound(), 50);
                due("it is not above THE PLAN", tasks(0, 4, 2, 5).bound() <= tasks(0, 4, 2, 5).plan(3) ? 1 : 0, 1);
            });
    }

    private static void leastFirst() {
        // MILES are least with both SIZES apart or together alike, as each change leads over THE YARD, where the TIP is.
        tours("SIZES mixed", tasks(0, 4, 1, 5, 0, 4, 1, 5), 3, "0123///");
        SkipCity x = tasks(east(), 0, 4, 4, 5, 4, 4, 0, 5);
        due("least MILES in all", x.plan(3), 98 + 98);
        tours("each SIZE in a row", x, 3, "0231///");
        x.reach(98);
        due("the same MILES with two", x.plan(3), 98 + 98);
        tours("each SIZE with its LORRY", x, 3, "02/31//");
        tours("with two", x, 2, "02/31/");
    }

    private static void leastRows() {
        // KERBS at 10 and 49 MILES, a TIP at 49: from the near one first it is 98, else 176.
        tours("the near one first", tasks(east(), 4, 4, 0, 4), 1, "10/");
        tours("it is first already", tasks(east(), 0, 4, 4, 4), 1, "01/");
        tours("of like ones", tasks(east(), 4, 4, 0, 4, 4, 4), 1, "102/");
        tours("of like ones", tasks(east(), 4, 4, 4, 4, 0, 4), 1, "201/");
        tours("two near ones", tasks(east(), 0, 4, 0, 4), 1, "01/");
        tours("of many", tasks(east(), 4, 4, 4, 4, 4, 4, 4, 4, 4, 4, 0, 4), 1, "501234/");
    }

    private static void calls() {
        says("39", "`int task(int kerb, int size, int sort)`: A TASK more: how many.", () -> {
            SkipCity x = road();
            for (int n = 1; n <= 6; n++) {
                due("how many", x.task(n % 5, 2 * n, n - 1), n);
                due("count(9)", x.count(9), n);
            }
        });
        says("39", "BAD; FULL.", () -> {
            refusedAt("KERB", SwapsEdges::road, (x, v) -> x.task(v, 4, 0), BAD, -1, 6, LEAST_INT, MOST_INT);
            refusedAt("SIZE", SwapsEdges::road, (x, v) -> x.task(0, v, 0), BAD, 0, 13, LEAST_INT, MOST_INT);
            refusedAt("SORT", SwapsEdges::road, (x, v) -> x.task(0, 4, v), BAD, -1, 6, LEAST_INT, MOST_INT);
            refused("FULL", six(), x -> x.task(4, 12, 5), FULL);
            refused("BAD KERB ahead of FULL", six(), x -> x.task(6, 4, 0), BAD);
            refused("BAD SIZE ahead of FULL", six(), x -> x.task(0, 13, 0), BAD);
            refused("BAD SORT ahead of FULL", six(), x -> x.task(0, 4, 6), BAD);
        });
        says("40", "`int clear()`: No TASKS: how many there were.", () -> {
            answers("none", SkipCity::new, x -> x.clear(), 0);
            answers("six", six(), x -> x.clear(), 6);
            SkipCity x = six().get();
            due("a plan", x.plan(1), 120);
            x.clear();
            due("no TASKS", x.count(9), 0);
            due("cleared again", x.clear(), 0);
            due("a plan of none", x.plan(1), 0);
            due("no TASK in it", x.tour(1, 0, 0), -1);
            due("the first again", x.task(1, 4, 0), 1);
            due("a plan of one", x.plan(1), 40);
        });
        says("41", "`int reach(int miles)`: REACH: what it was.", () -> {
            SkipCity x = new SkipCity();
            due("at first", x.reach(1), 400);
            due("the least", x.reach(2000), 1);
            due("the greatest", x.reach(399), 2000);
            due("what it was", x.reach(400), 399);
        });
        says("41", "BAD.", () -> refusedAt("REACH", Town::made, (x, v) -> x.reach(v), BAD, 0, 2001, -1, LEAST_INT, MOST_INT));
        Supplier<SkipCity> none = reach(six(), 39);
        says("42", "`int plan(int n)`: MILES of THE PLAN with n LORRIES.", () -> {
            answers("no TASKS", SkipCity::new, x -> x.plan(3), 0);
            range("LORRIES", six(), 1, 3, (x, v) -> x.plan(v), 120);
            SkipCity x = tasks(0, 4, 1, 4);
            due("REACH 59", reach(x, 59).plan(1), NOT);
            due("REACH 60", reach(x, 60).plan(1), 60);
            due("REACH 40, two", reach(x, 40).plan(2), 60);
            due("REACH 39, two", reach(x, 39).plan(2), NOT);
        });
        says("42", "BAD; NOT: there is none.", () -> {
            refusedAt("LORRIES", six(), (x, v) -> x.plan(v), BAD, 0, 4, -1, LEAST_INT, MOST_INT);
            refusedAt("none with LORRIES", none, (x, v) -> x.plan(v), NOT, 1, 2, 3);
            refusedAt("BAD ahead of NOT", none, (x, v) -> x.plan(v), BAD, 0, 4);
        });
        toursAndMiles(none);
        says("45", "`int bound()`: BOUND of it from below (0 without TASKS).", () -> {
            answers("without TASKS", SkipCity::new, x -> x.bound(), 0);
            answers("without TASKS any more", after(six(), x -> x.clear()), x -> x.bound(), 0);
            answers("of six", six(), x -> x.bound(), 60 + 10);
            answers("of 0 MILES", SwapsEdges::home, x -> x.bound(), 0);
        });
        says("45", "NOT: some TASK has no TIP.", () -> {
            refused("no TIPS", after(SwapsEdges::noTips, x -> x.task(0, 4, 0)), x -> x.bound(), NOT);
            Supplier<SkipCity> first = after(SwapsEdges::oneSort, x -> x.task(0, 4, 1) + x.task(0, 4, 0));
            Supplier<SkipCity> last = after(SwapsEdges::oneSort, x -> x.task(0, 4, 0) + x.task(0, 4, 1));
            refused("the first has none", first, x -> x.bound(), NOT);
            refused("the last has none", last, x -> x.bound(), NOT);
            answers("all have one", after(last, x -> x.tip(60, 50, 2, 12, 12, 0)), x -> x.bound(), 10 + 0 + 10 + 0);
        });
    }

    private static SkipCity reach(SkipCity x, int miles) {
        x.reach(miles);
        return x;
    }

    private static void toursAndMiles(Supplier<SkipCity> none) {
        Supplier<SkipCity> made = reach(six(), 80);
        says("43", "`int tour(int n, int lorry, int i)`: TASK i of the TOUR of a LORRY in THE PLAN with n LORRIES; NONE: it is not "
            + "so long.", () -> {
                int[] first = {0, 1, 2, 3, -1, -1};
                int[] second = {4, 5, -1, -1, -1, -1};
                SkipCity x = made.get();
                for (int i = 0; i < first.length; i++) {
                    due("LORRY 0, TASK " + i, x.tour(3, 0, i), first[i]);
                    due("LORRY 1, TASK " + i, x.tour(3, 1, i), second[i]);
                    due("LORRY 2, TASK " + i, x.tour(3, 2, i), -1);
                }
                due("far behind the last", x.tour(3, 0, MOST_INT), -1);
                answers("six of one LORRY", six(), c -> c.tour(1, 0, 5), 5);
                answers("not seven", six(), c -> c.tour(1, 0, 6), -1);
                answers("no TASKS", SkipCity::new, c -> c.tour(1, 0, 0), -1);
            });
        says("43", "BAD: also LORRY not below n, i below 0; NOT.", () -> {
            refusedAt("n", made, (x, v) -> x.tour(v, 0, 0), BAD, 0, 4, -1, LEAST_INT, MOST_INT);
            refusedAt("i", made, (x, v) -> x.tour(2, 0, v), BAD, -1, -2, LEAST_INT);
            for (int n = 1; n <= 3; n++) {
                int lorries = n;
                refusedAt("LORRY of " + n, made, (x, v) -> x.tour(lorries, v, 0), BAD, -1, n, n + 1, LEAST_INT, MOST_INT);
                refused("there is none", none, x -> x.tour(lorries, lorries - 1, 0), NOT);
                refused("BAD LORRY ahead of NOT", none, x -> x.tour(lorries, lorries, 0), BAD);
                refused("BAD i ahead of NOT", none, x -> x.tour(lorries, 0, -1), BAD);
            }
            refusedAt("BAD n ahead of NOT", none, (x, v) -> x.tour(v, 0, 0), BAD, 0, 4);
        });
        says("44", "`int miles(int n, int lorry)`: MILES of a TOUR in THE PLAN.", () -> {
            int[] miles = {80, 40, 0};
            for (int lorry = 0; lorry <= 2; lorry++) {
                due("MILES of LORRY " + lorry, made.get().miles(3, lorry), miles[lorry]);
            }
            answers("of one LORRY", six(), x -> x.miles(1, 0), 120);
            answers("no TASKS", SkipCity::new, x -> x.miles(3, 2), 0);
        });
        says("44", "BAD; NOT.", () -> {
            refusedAt("n", made, (x, v) -> x.miles(v, 0), BAD, 0, 4, -1, LEAST_INT, MOST_INT);
            for (int n = 1; n <= 3; n++) {
                int lorries = n;
                refusedAt("LORRY of " + n, made, (x, v) -> x.miles(lorries, v), BAD, -1, n, n + 1, LEAST_INT, MOST_INT);
                refused("there is none", none, x -> x.miles(lorries, 0), NOT);
                refused("BAD LORRY ahead of NOT", none, x -> x.miles(lorries, lorries), BAD);
            }
            refusedAt("BAD n ahead of NOT", none, (x, v) -> x.miles(v, 0), BAD, 0, 4);
        });
    }
}
