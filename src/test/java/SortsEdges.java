import java.util.function.Supplier;

/** The edges of sorts: terms 5, promises 33 to 36. */
final class SortsEdges extends Edges {
    static void run() {
        drawing();
        taxing();
        finding();
        drawCalls();
        askCalls();
    }

    /** LET 0 has a LOAD, LET 1 stands; SHEET 0 of a FORM with items; SHEET 1 is LOST. */
    private static SkipCity load(int form, int... items) {
        SkipCity x = new SkipCity();
        x.kerb(0, 40, 50, 60);
        x.skip(4);
        x.skip(4);
        x.permit(0, 0, 9);
        x.tip(20, 50, 63, 0, 23, 10);
        x.let(0, 0, 0, 8);
        x.let(1, 0, 0, 8);
        x.fetch(0, 0, 90);
        x.sheet(0, form, items.length);
        for (int i = 0; i < items.length; i++) x.put(0, form, i, items[i]);
        return x;
    }

    private static Supplier<SkipCity> with(int form, int... items) {
        return () -> load(form, items);
    }

    /** DRAWN of N PIECES so many of each SORT. */
    private static SkipCity drawn(int pieces, int... items) {
        SkipCity x = load(2, items);
        x.draw(0, pieces, 0);
        return x;
    }

    private static void drawing() {
        says("T5", "DRAWN of a LOAD, once: of PIECES N (1 to 60) some n (1 to N) were drawn, so many of each SORT (together n).",
            () -> {
                range("PIECES", with(0, 1, 0, 0, 0, 0, 0), 1, 60, (x, v) -> x.draw(0, v, 0), 1);
                answers("all of 60", with(0, 10, 10, 10, 10, 10, 10), x -> x.draw(0, 60, 0), 60);
                refused("one more than 60", with(0, 10, 10, 10, 10, 10, 11), x -> x.draw(0, 60, 0), NOT);
                answers("all of 6", with(0, 1, 1, 1, 1, 1, 1), x -> x.draw(0, 6, 0), 6);
                refused("one more than 5", with(0, 1, 1, 1, 1, 1, 1), x -> x.draw(0, 5, 0), NOT);
                refused("none", with(0, 0, 0, 0, 0, 0, 0), x -> x.draw(0, 60, 0), NOT);
                refused("once", () -> drawn(6, 1, 1, 1, 1, 1, 1), x -> x.draw(0, 6, 0), NOT);
                for (int sort = 0; sort <= 5; sort++) {
                    int[] items = new int[6];
                    items[sort] = 60;
                    for (int other = 0; other <= 5; other++) {
                        due("SORT " + other, drawn(60, items).sorts(0, other, 0), other == sort ? 60 : 0);
                    }
                }
            });
        says("T5", "BOUND of a SORT: K pieces of it in all are likely, if of all ways to draw n of N those with at most k of the "
            + "SORT are a fortieth of all or more, and those with at least k are, too; the least and the greatest K (0 to N) "
            + "that are likely.", () -> {
                bound(1, 1, 1, 1, 1);
                bound(1, 0, 1, 0, 0);
                // One of N: of K pieces it is one in K ways, none in N - K.
                bound(39, 1, 1, 1, 39);
                bound(40, 1, 1, 1, 40);
                bound(41, 1, 1, 2, 41);
                bound(60, 1, 1, 2, 60);
                bound(39, 0, 1, 0, 38);
                bound(40, 0, 1, 0, 39);
                bound(41, 0, 1, 0, 39);
                bound(60, 0, 1, 0, 58);
                // All that are just a fortieth, with 1 of N at 40, and none more: 3 in 120 ways, and so on.
                bound(16, 0, 2, 0, 13);
                bound(16, 1, 3, 1, 14);
                bound(16, 0, 13, 0, 2);
                bound(16, 1, 14, 1, 3);
                bound(40, 0, 39, 0, 1);
                // All are drawn, so it is known how many there are.
                bound(60, 60, 60, 60, 60);
                bound(60, 0, 60, 0, 0);
                bound(60, 17, 60, 17, 17);
                bound(2, 1, 2, 1, 1);
                // The most ways that there are: C(60, 30).
                bound(60, 15, 30, 22, 38);
                bound(60, 0, 30, 0, 5);
                bound(60, 30, 30, 55, 60);
            });
    }

    /** k of n DRAWN of N are of SORT 5, all others of SORT 0. */
    private static void bound(int pieces, int k, int n, int least, int greatest) {
        SkipCity x = drawn(pieces, n - k, 0, 0, 0, 0, k);
        String of = k + " of " + n + " of " + pieces;
        answers(of, new long[] {k, least, greatest}, what -> x.sorts(0, 5, what));
        answers(of + ", the others", new long[] {n - k, pieces - greatest, pieces - least}, what -> x.sorts(0, 0, what));
    }

    private static SkipCity taxed(String tax, int weight, SkipCity x) {
        type(x, 4, tax);
        x.weigh(0, 0, weight, 0);
        return x;
    }

    private static void taxing() {
        says("T5", "TAX of a LOAD that is WEIGHED: by SORTS: weight times the SORT's part of what was DRAWN (k by n) times TAX of "
            + "the LOAD's DAY by 100, cut, of each; a LOAD that was not DRAWN is of SORT 0 all.", () -> {
                due("not DRAWN", taxed("s0=100;s1=900", 7, load(0)).taxed(0), 7);
                due("not DRAWN, cut", taxed("s0=99", 1, load(0)).taxed(0), 0);
                due("not DRAWN, not cut", taxed("s0=100", 1, load(0)).taxed(0), 1);
                due("not DRAWN, no TAX of SORT 0", taxed("s1=900", 3000, load(0)).taxed(0), 0);
                due("the most", taxed("s0=999", 3000, load(0)).taxed(0), 29970);
                due("DRAWN of one SORT", taxed("s0=100;s5=900", 7, drawn(60, 0, 0, 0, 0, 0, 60)).taxed(0), 63);
                due("the most, DRAWN", taxed("s5=999", 3000, drawn(60, 0, 0, 0, 0, 0, 60)).taxed(0), 29970);
                String all = "s0=100;s1=100;s2=100;s3=100;s4=100;s5=100";
                due("each just whole", taxed(all, 6, drawn(6, 1, 1, 1, 1, 1, 1)).taxed(0), 6);
                due("each is cut", taxed(all, 5, drawn(6, 1, 1, 1, 1, 1, 1)).taxed(0), 0);
                due("each is cut once", taxed("s0=150;s1=250", 3, drawn(2, 1, 1, 0, 0, 0, 0)).taxed(0), 2 + 3);
                due("by n, not by N", taxed("s0=100;s1=200", 8, drawn(60, 1, 3, 0, 0, 0, 0)).taxed(0), 2 + 12);
                SkipCity x = taxed("s0=100;s0@1=200", 8, load(0));
                x.pass(5);
                due("TAX of the LOAD's DAY", x.taxed(0), 8);
                SkipCity y = load(0);
                y.pass(1);
                y.fetch(1, 0, 0);
                type(y, 4, "s0=100;s0@1=200;s0@2=300");
                y.pass(1);
                y.weigh(1, 0, 8, 2);
                due("not of the DAY it was told", y.taxed(1), 16);
                SkipCity z = taxed("s0=100", 8, load(1, 0, 2, 0, 0, 0, 0));
                due("ahead of the drawing", z.taxed(0), 8);
                z.draw(0, 2, 0);
                due("behind it", z.taxed(0), 0);
            });
    }

    /** LET 0 at KERB 0 (40, 50) with TIPS as told: x, SORTS, from, to. */
    private static SkipCity tips(int[]... tips) {
        SkipCity x = new SkipCity();
        x.kerb(0, 40, 50, 60);
        x.skip(1);
        x.permit(0, 0, 9);
        x.let(0, 0, 0, 8);
        for (int[] t : tips) x.tip(t[0], 50, t[1], t[2], t[3], 0);
        return x;
    }

    private static void finding() {
        says("T5", "A FIND in a LOAD (told: a SORT): it must go to a TIP that takes the SORT, is open at an hour that is told, and "
            + "has the least MILES from the LET's KERB (of like ones the least TIP).", () -> {
                int[] near = {41, 1, 6, 18};
                int[] far = {99, 33, 0, 23};
                due("no TIP", tips().find(0, 0, 12), -1);
                due("the nearer", tips(near, far).find(0, 0, 12), 0);
                due("the nearer, told last", tips(far, near).find(0, 0, 12), 1);
                due("an hour ahead", tips(near, far).find(0, 0, 5), 1);
                due("the first hour", tips(near, far).find(0, 0, 6), 0);
                due("the last hour", tips(near, far).find(0, 0, 18), 0);
                due("an hour behind", tips(near, far).find(0, 0, 19), 1);
                due("it does not take the SORT", tips(near, far).find(0, 5, 12), 1);
                due("none takes the SORT", tips(near, far).find(0, 4, 12), -1);
                due("none is open", tips(near).find(0, 0, 19), -1);
                int[] alike = {39, 1, 0, 23};
                due("of like ones", tips(near, alike).find(0, 0, 12), 0);
                due("of like ones", tips(alike, near).find(0, 0, 12), 0);
                due("of like ones that are open", tips(near, alike).find(0, 0, 23), 1);
                due("a mile less", tips(near, new int[] {40, 1, 0, 23}).find(0, 0, 12), 1);
                due("of six", tips(far, far, far, far, far, near).find(0, 0, 12), 5);
                // From KERB 0 to TIP 0, though TIP 1 is at THE YARD.
                due("from the KERB", tips(new int[] {31, 1, 0, 23}, new int[] {50, 1, 0, 23}).find(0, 0, 12), 0);
            });
    }

    private static void drawCalls() {
        Supplier<SkipCity> well = with(1, 3, 0, 7, 0, 0, 0);
        says("33", "`int draw(int let, int pieces, int s)`: DRAWN of a LOAD: N PIECES, and of SORTS 0 .. 5 items of a SHEET: n.",
            () -> {
                for (int form = 0; form <= 2; form++) {
                    answers("six items", with(form, 1, 2, 3, 4, 5, 6), x -> x.draw(0, 21, 0), 21);
                    answers("seven items", with(form, 1, 2, 3, 4, 5, 6, 7), x -> x.draw(0, 21, 0), 21);
                    answers("the seventh below 0", with(form, 0, 0, 0, 0, 0, 1, -7), x -> x.draw(0, 1, 0), 1);
                }
                SkipCity x = load(0, 1, 2, 3, 4, 5, 6);
                x.draw(0, 21, 0);
                x.put(0, 0, 0, 9);
                x.lose(0);
                for (int sort = 0; sort <= 5; sort++) {
                    due("of SORT " + sort + ", whatever comes of the SHEET", x.sorts(0, sort, 0), sort + 1);
                }
                range("SHEET", SortsEdges::allSheets, 0, 3, (c, v) -> c.draw(0, 9, v), 1);
            });
        says("33", "BAD: N, the SHEET; NULL; INDEX: fewer than 6 items; NOT: no LOAD, DRAWN before, an item below 0, none or more "
            + "than N together.", () -> {
                refusedAt("LET", well, (x, v) -> x.draw(v, 40, 0), BAD, -1, 2, LEAST_INT, MOST_INT);
                refusedAt("N", well, (x, v) -> x.draw(0, v, 0), BAD, 0, 61, -1, LEAST_INT, MOST_INT);
                refusedAt("SHEET", well, (x, v) -> x.draw(0, 40, v), BAD, -1, 4, LEAST_INT, MOST_INT);
                refused("NULL", well, x -> x.draw(0, 40, 1), NULL);
                refused("BAD LET ahead of NULL", well, x -> x.draw(2, 40, 1), BAD);
                refused("BAD N ahead of NULL", well, x -> x.draw(0, 61, 1), BAD);
                refused("NULL ahead of no LOAD", well, x -> x.draw(1, 40, 1), NULL);
                refused("NULL ahead of DRAWN before", after(well, x -> x.draw(0, 40, 0)), x -> x.draw(0, 40, 1), NULL);
                refused("no item", with(0), x -> x.draw(0, 40, 0), INDEX);
                refused("five items", with(0, 1, 1, 1, 1, 1), x -> x.draw(0, 40, 0), INDEX);
                refused("BAD N ahead of INDEX", with(0, 1, 1, 1, 1, 1), x -> x.draw(0, 0, 0), BAD);
                refused("BAD LET ahead of INDEX", with(0, 1, 1, 1, 1, 1), x -> x.draw(2, 40, 0), BAD);
                refused("INDEX ahead of no LOAD", with(0, 1, 1, 1, 1, 1), x -> x.draw(1, 40, 0), INDEX);
                refused("INDEX ahead of none", with(0, 0, 0, 0, 0, 0), x -> x.draw(0, 40, 0), INDEX);
                refused("INDEX ahead of an item below 0", with(0, -1, 1, 1, 1, 1), x -> x.draw(0, 40, 0), INDEX);
                refused("INDEX ahead of more than N", with(0, 9, 9, 9, 9, 9), x -> x.draw(0, 40, 0), INDEX);
                Supplier<SkipCity> drawnAndShort = after(after(well, x -> x.draw(0, 40, 0)), x -> x.sheet(0, 0, 5));
                refused("INDEX ahead of DRAWN before", drawnAndShort, x -> x.draw(0, 40, 0), INDEX);
                notDrawn(well);
            });
    }

    private static void notDrawn(Supplier<SkipCity> well) {
        not("no LOAD", well, 1, 40);
        not("DRAWN before", after(well, x -> x.draw(0, 40, 0)), 0, 40);
        not("none", with(2, 0, 0, 0, 0, 0, 0, 9), 0, 40);
        not("one more than N", with(2, 9, 9, 9, 9, 4, 1), 0, 40);
        answers("as many as N", with(2, 9, 9, 9, 9, 4, 0), x -> x.draw(0, 40, 0), 40);
        for (int sort = 0; sort <= 5; sort++) {
            int[] items = {1, 1, 1, 1, 1, 1};
            items[sort] = -1;
            not("item " + sort + " below 0", with(2, items), 0, 40);
            not("item " + sort + " far below 0", with(2, items[0] * 9, items[1] * 9, items[2] * 9, items[3] * 9,
                items[4] * 9, items[5] * 9), 0, 60);
        }
        not("the least int", with(2, 1, 0, 0, 0, 0, LEAST_INT), 0, 40);
        not("two least ints, that wrap to 1", with(2, LEAST_INT, LEAST_INT, 1, 0, 0, 0), 0, 40);
        not("a sum that wraps below 0", with(2, MOST_INT, 1, 0, 0, 0, 0), 0, 40);
        not("a sum that wraps to 1", with(2, MOST_INT, MOST_INT, 3, 0, 0, 0), 0, 40);
        not("a byte that wraps below 0", with(0, 128, 0, 0, 0, 0, 1), 0, 40);
    }

    private static void not(String what, Supplier<SkipCity> made, int let, int pieces) {
        refused(what, made, x -> x.draw(let, pieces, 0), NOT);
        refused("BAD LET ahead of " + what, made, x -> x.draw(60, pieces, 0), BAD);
        refused("BAD N ahead of " + what, made, x -> x.draw(let, 61, 0), BAD);
        refused("BAD SHEET ahead of " + what, made, x -> x.draw(let, pieces, 4), BAD);
    }

    private static SkipCity allSheets() {
        SkipCity x = load(0, 1, 0, 0, 0, 0, 0);
        for (int s = 1; s <= 3; s++) {
            x.sheet(s, 1, 6);
            x.put(s, 1, 5, 1);
        }
        return x;
    }

    private static void askCalls() {
        Supplier<SkipCity> known = () -> taxed("s0=100", 8, drawn(40, 3, 0, 7, 0, 0, 0));
        says("34", "`int sorts(int let, int sort, int what)`: Of a SORT of a LOAD: 0 how many were DRAWN, 1 the least, 2 the "
            + "greatest BOUND.", () -> {
                SkipCity x = known.get();
                answers("SORT 0", new long[] {3, 4, 24}, what -> x.sorts(0, 0, what));
                answers("SORT 2", new long[] {7, 16, 36}, what -> x.sorts(0, 2, what));
                answers("SORT 5", new long[] {0, 0, 10}, what -> x.sorts(0, 5, what));
            });
        says("34", "BAD; NOT: it was not DRAWN.", () -> {
            refusedAt("LET", known, (x, v) -> x.sorts(v, 0, 0), BAD, -1, 2, LEAST_INT, MOST_INT);
            refusedAt("SORT", known, (x, v) -> x.sorts(0, v, 0), BAD, -1, 6, LEAST_INT, MOST_INT);
            refusedAt("what", known, (x, v) -> x.sorts(0, 0, v), BAD, -1, 3, LEAST_INT, MOST_INT);
            for (int what = 0; what <= 2; what++) {
                int n = what;
                refused("a LOAD that was not DRAWN", with(0), x -> x.sorts(0, 5, n), NOT);
                refused("no LOAD", known, x -> x.sorts(1, 0, n), NOT);
            }
            refused("BAD SORT ahead of NOT", with(0), x -> x.sorts(0, 6, 0), BAD);
            refused("BAD what ahead of NOT", with(0), x -> x.sorts(0, 0, 3), BAD);
            refused("BAD what ahead of no LOAD", known, x -> x.sorts(1, 0, -1), BAD);
        });
        says("35", "`int taxed(int let)`: TAX of a LOAD.", () -> {
            answers("of a weight", known, x -> x.taxed(0), 2);
            answers("without TAX", () -> taxed("", 3000, load(0)), x -> x.taxed(0), 0);
            answers("the least weight", () -> taxed("s0=999", 1, load(0)), x -> x.taxed(0), 9);
        });
        says("35", "BAD; NOT: not WEIGHED, as far as is known.", () -> {
            refusedAt("LET", known, (x, v) -> x.taxed(v), BAD, -1, 2, LEAST_INT, MOST_INT);
            refused("no LOAD", known, x -> x.taxed(1), NOT);
            refused("not WEIGHED", with(0), x -> x.taxed(0), NOT);
            Supplier<SkipCity> later = () -> {
                SkipCity x = load(0);
                x.pass(1);
                x.weigh(0, 0, 8, 1);
                return x;
            };
            answers("WEIGHED", later, x -> x.taxed(0), 0);
            answers("known", after(later, x -> x.asOf(1)), x -> x.taxed(0), 0);
            refused("not known", after(later, x -> x.asOf(0)), x -> x.taxed(0), NOT);
        });
        says("36", "`int find(int let, int sort, int hour)`: The TIP for a FIND of a SORT in a LET at an hour; NONE: there is none.",
            () -> {
                range("SORT", known, 0, 5, (x, v) -> x.find(0, v, 12), 0);
                range("hour", known, 0, 23, (x, v) -> x.find(0, 0, v), 0);
                range("LET", known, 0, 1, (x, v) -> x.find(v, 0, 12), 0);
                answers("no TIP", () -> tips(), x -> x.find(0, 0, 0), -1);
            });
        says("36", "BAD.", () -> {
            refusedAt("LET", known, (x, v) -> x.find(v, 0, 12), BAD, -1, 2, LEAST_INT, MOST_INT);
            refusedAt("SORT", known, (x, v) -> x.find(0, v, 12), BAD, -1, 6, LEAST_INT, MOST_INT);
            refusedAt("hour", known, (x, v) -> x.find(0, 0, v), BAD, -1, 24, LEAST_INT, MOST_INT);
        });
    }
}
