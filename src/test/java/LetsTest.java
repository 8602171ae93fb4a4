import java.util.function.Supplier;

/** Promises 17 to 25: lets. */
final class LetsTest extends Case {
    static void run() {
        let();
        letByLaw();
        scan();
        letIs();
        fetch();
        swap();
        lapsed();
        forgotten();
        lamps();
    }

    private static void let() {
        SkipCity x = new SkipCity();
        x.kerb(0, 1, 1, 21);
        x.skip(6);
        x.skip(7);
        x.skip(6);
        due("no permit", x.let(0, 0, 0, 0), -3);
        x.permit(0, 0, 0);
        due("let", x.let(0, 0, 0, 0), 0);
        due("11 feet for 11", x.let(1, 0, 5, 399), 1);
        due("free", x.about(0, 5), 0);
        due("count(3)", x.count(3), 1);
        due("count(6)", x.count(6), 2);
        due("no room", x.let(2, 0, 0, 0), -3);
        due("a skip that stands before no room", x.let(0, 0, 0, 0), -2);
        int[][] bad = {{-1, 0, 1, 9}, {5, 0, 1, 9}, {2, 0, 1, 9}, {0, -1, 1, 9}, {0, 4, 1, 9}, {0, 0, -1, 9},
            {0, 0, 6, 9}, {0, 0, 1, 3}, {0, 0, 1, -1}, {0, 0, 1, 400}, {0, 3, 6, 9}};
        for (int[] b : bad) {
            refused("let bad", Town::made, t -> t.let(b[0], b[1], b[2], b[3]), -2);
        }
        refused("let refused kerb", Town::made, t -> t.let(0, 2, 1, 9), -3);
        refused("let no permit", Town::made, t -> t.let(0, 3, 1, 9), -3);
        refused("let no room", Town::made, t -> t.let(4, 1, 1, 9), -3);
        due("let on the last day", Town.made().let(0, 0, 1, 4), 3);
        due("let a skip that came back", Town.made().let(0, 0, 1, 399), 3);
        Supplier<SkipCity> full = LetsTest::fullOfLets;
        refused("let full", full, t -> t.let(0, 0, 1, 9), -4);
        refused("let not before full", full, t -> t.let(0, 1, 1, 9), -3);
        refused("let bad before full", full, t -> t.let(0, 0, 6, 9), -2);
    }

    /** 60 LETS of SKIPS 0 and 1 at KERB 0; LET 59, of SKIP 1, stands. */
    private static SkipCity fullOfLets() {
        SkipCity x = new SkipCity();
        x.kerb(0, 1, 1, 30);
        x.kerb(0, 1, 1, 30);
        x.permit(0, 0, 13);
        x.skip(2);
        x.skip(2);
        for (int i = 0; i < 60; i++) {
            due("let " + i, x.let(i % 2, 0, 1, 9), i);
            if (i < 59) {
                x.fetch(i, 0, 10);
            }
        }
        return x;
    }

    private static SkipCity underLaw(String law, int days, boolean holiday) {
        SkipCity x = new SkipCity();
        x.kerb(1, 1, 1, 30);
        x.skip(2);
        x.skip(2);
        x.skip(2);
        x.permit(0, 0, 13);
        x.let(0, 0, 0, 20);
        type(x, 1, law);
        if (days > 0) {
            x.pass(days);
        }
        x.holiday(days, holiday);
        return x;
    }

    private static void letByLaw() {
        String[] laws = {"", "e", "h", "e;h", "e;h;"};
        for (String law : laws) {
            for (int day = 0; day <= 13; day++) {
                for (int holiday = 0; holiday <= 1; holiday++) {
                    boolean end = law.startsWith("e") && law.length() < 4 && day % 7 >= 5;
                    boolean free = law.endsWith("h") && holiday == 1;
                    String what = "law " + law + ", day " + day + ", holiday " + holiday;
                    SkipCity x = underLaw(law, day, holiday == 1);
                    boolean not = end || free;
                    due(what + ": let", x.let(1, 0, 0, 20), not ? -3 : 1);
                    due(what + ": swap", x.swap(0, 0, 0, 2, 20), not ? -3 : 2);
                    due(what + ": fetch", underLaw(law, day, holiday == 1).fetch(0, 0, 0), not ? -3 : 1);
                }
            }
        }
    }

    private static void scan() {
        SkipCity x = Town.made();
        due("scanned at its beginning", x.letIs(2, 5), 1);
        due("scan", x.scan(2), 1);
        due("scanned", x.letIs(2, 5), 4);
        due("scan again", x.scan(2), 1);
        refused("scan(-1)", Town::made, t -> t.scan(-1), -2);
        refused("scan(3)", Town::made, t -> t.scan(3), -2);
        refused("scan of a fetched one", Town::made, t -> t.scan(0), -3);
        Supplier<SkipCity> again = () -> {
            SkipCity t = Town.made();
            t.let(0, 0, 1, 9);
            return t;
        };
        refused("scan of one whose skip is let again", again, t -> t.scan(0), -3);
    }

    private static void letIs() {
        SkipCity x = Town.made();
        answers("let 0", new long[] {0, 0, 1, 0, 2, 0, 1, 1, 130}, what -> x.letIs(0, what));
        answers("let 1", new long[] {1, 1, 2, 0, 3, 0, 2, 5, 0}, what -> x.letIs(1, what));
        answers("let 2", new long[] {2, 0, 1, 1, 2, 1, -1, -1, -1}, what -> x.letIs(2, what));
        refused("letIs(-1)", Town::made, t -> t.letIs(-1, 0), -2);
        refused("letIs(3)", Town::made, t -> t.letIs(3, 0), -2);
    }

    private static void fetch() {
        SkipCity x = Town.made();
        due("fetch", x.fetch(2, 0, 200), 1);
        answers("let 2 fetched", new long[] {2, 0, 1, 1, 2, 1, 4, 0, 200}, what -> x.letIs(2, what));
        due("its skip", x.where(2, 1), -1);
        due("feet", x.about(0, 5), 24);
        due("count(3)", x.count(3), 5);
        due("without a permit", fetchLate(), 1);
        int[][] bad = {{-1, 0, 0}, {3, 0, 0}, {2, -1, 0}, {2, 6, 0}, {2, 0, -1}, {2, 0, 201}, {0, 6, 0}};
        for (int[] b : bad) {
            refused("fetch bad", Town::made, t -> t.fetch(b[0], b[1], b[2]), -2);
        }
        refused("fetch again", Town::made, t -> t.fetch(0, 0, 0), -3);
        Supplier<SkipCity> weekEnd = () -> underLaw("e", 5, false);
        refused("fetch by law", weekEnd, t -> t.fetch(0, 0, 0), -3);
        refused("fetch bad before not", weekEnd, t -> t.fetch(0, 0, 201), -2);
    }

    private static int fetchLate() {
        SkipCity x = Town.made();
        x.refuse(0, true);
        x.pass(40);
        return x.fetch(2, 5, 0);
    }

    private static void swap() {
        SkipCity x = Town.made();
        due("swap", x.swap(2, 3, 90, 1, 4), 3);
        answers("the old let", new long[] {2, 0, 1, 1, 2, 1, 4, 3, 90}, what -> x.letIs(2, what));
        answers("the new let", new long[] {1, 0, 1, 4, 4, 4, -1, -1, -1}, what -> x.letIs(3, what));
        due("old skip", x.where(2, 1), -1);
        due("new skip", x.where(1, 2), 3);
        due("feet", x.about(0, 5), 16);
        int[][] bad = {{-1, 0, 0, 0, 9}, {3, 0, 0, 0, 9}, {2, -1, 0, 0, 9}, {2, 6, 0, 0, 9}, {2, 0, -1, 0, 9},
            {2, 0, 201, 0, 9}, {2, 0, 0, -1, 9}, {2, 0, 0, 5, 9}, {2, 0, 0, 0, 3}, {2, 0, 0, 0, 400}, {0, 0, 0, 0, 3}};
        for (int[] b : bad) {
            refused("swap bad", Town::made, t -> t.swap(b[0], b[1], b[2], b[3], b[4]), -2);
        }
        refused("swap of a fetched one", Town::made, t -> t.swap(0, 0, 0, 0, 9), -3);
        refused("swap for a skip that stands", Town::made, t -> t.swap(2, 0, 0, 2, 9), -3);
        refused("swap for another size", Town::made, t -> t.swap(2, 0, 0, 3, 9), -3);
        Supplier<SkipCity> refusedKerb = () -> {
            SkipCity t = Town.made();
            t.refuse(0, true);
            return t;
        };
        refused("swap at a refused kerb", refusedKerb, t -> t.swap(2, 0, 0, 0, 9), -3);
        Supplier<SkipCity> lapsed = () -> {
            SkipCity t = Town.made();
            t.pass(10);
            return t;
        };
        refused("swap without a permit", lapsed, t -> t.swap(2, 0, 0, 0, 20), -3);
        Supplier<SkipCity> law = () -> underLaw("h", 2, true);
        refused("swap by law", law, t -> t.swap(0, 0, 0, 1, 20), -3);
        Supplier<SkipCity> full = LetsTest::fullOfLets;
        refused("swap full", full, t -> t.swap(59, 0, 0, 0, 9), -4);
        refused("swap not before full", full, t -> t.swap(59, 0, 0, 1, 9), -3);
        refused("swap bad before full", full, t -> t.swap(59, 0, 0, 2, 9), -2);
        swapAtFullKerb();
    }

    private static void swapAtFullKerb() {
        SkipCity x = new SkipCity();
        x.kerb(0, 1, 1, 10);
        x.permit(0, 0, 13);
        x.skip(6);
        x.skip(6);
        x.let(0, 0, 4, 3);
        due("swap at a full kerb", x.swap(0, 0, 0, 1, 0), 1);
        due("same trade", x.letIs(1, 2), 4);
    }

    private static void lapsed() {
        SkipCity x = new SkipCity();
        x.kerb(0, 1, 1, 60);
        x.kerb(0, 1, 1, 60);
        x.skip(2);
        x.skip(2);
        x.skip(2);
        x.permit(0, 0, 3);
        x.permit(1, 0, 5);
        x.let(0, 0, 0, 9);
        x.let(1, 0, 0, 9);
        x.let(2, 1, 0, 9);
        int[] want = {0, 0, 0, 0, 2, 2, 3, 3};
        for (int day = 0; day < 8; day++) {
            due("lapsed on " + day, x.lapsed(), want[day]);
            x.pass(1);
        }
        x.fetch(0, 0, 0);
        due("lapsed, one fetched", x.lapsed(), 2);
        x.permit(0, 8, 8);
        due("lapsed, with a permit again", x.lapsed(), 1);
    }

    private static void forgotten() {
        SkipCity x = new SkipCity();
        x.kerb(0, 1, 1, 60);
        x.permit(0, 0, 13);
        for (int i = 0; i < 4; i++) {
            x.skip(2);
            x.let(i, 0, 0, i == 1 ? 399 : 3);
        }
        x.pass(3);
        due("on the last day", x.forgotten(0), 0);
        x.pass(1);
        due("past it", x.forgotten(3), 3);
        due("not more days ago", x.forgotten(4), 0);
        x.scan(0);
        due("scanned today", x.forgotten(0), 2);
        due("the first", x.forgets(0, 0), 2);
        due("the second", x.forgets(0, 1), 3);
        due("no third", x.forgets(0, 2), -1);
        due("far behind", x.forgets(0, Integer.MAX_VALUE), -1);
        x.fetch(2, 0, 0);
        due("one fetched", x.forgets(0, 0), 3);
        x.pass(2);
        due("scanned two days ago", x.forgotten(1), 2);
        due("by numbers", x.forgets(1, 0), 0);
        due("none by 399", x.forgotten(399), 0);
        due("none by 399", x.forgets(399, 0), -1);
        refused("forgotten(-1)", Town::made, t -> t.forgotten(-1), -2);
        refused("forgotten(400)", Town::made, t -> t.forgotten(400), -2);
        refused("forgets(-1, 0)", Town::made, t -> t.forgets(-1, 0), -2);
        refused("forgets(400, 0)", Town::made, t -> t.forgets(400, 0), -2);
        refused("forgets(0, -1)", Town::made, t -> t.forgets(0, -1), -2);
    }

    private static void lamps() {
        SkipCity x = Town.made();
        due("lamps of a fetched one", x.lamps(0), 3);
        due("lamps by another law", x.lamps(1), 4);
        due("lamps of one that stands", x.lamps(2), 9);
        x.pass(1);
        due("a night more", x.lamps(2), 12);
        due("no night more", x.lamps(0), 3);
        x.wipe(0);
        due("by law as it is now", x.lamps(2), 8);
        type(x, 0, "l0");
        due("no lamps", x.lamps(2), 0);
        SkipCity y = Town.made();
        y.let(0, 0, 1, 9);
        due("no night yet", y.lamps(3), 0);
        y.fetch(3, 0, 0);
        due("no night", y.lamps(3), 0);
        refused("lamps(-1)", Town::made, t -> t.lamps(-1), -2);
        refused("lamps(3)", Town::made, t -> t.lamps(3), -2);
    }
}
