import java.util.function.Supplier;

/** The edges of the city: terms 1, promises 1 to 11. */
final class CityEdges extends Edges {
    static void run() {
        places();
        things();
        days();
        kerbs();
        skips();
        tips();
        permits();
    }

    /** As many KERBS, SKIPS, TIPS and PERMITS (of KERB 0) as are told, in a new city. */
    private static Supplier<SkipCity> with(int kerbs, int skips, int tips, int permits) {
        return () -> {
            SkipCity x = new SkipCity();
            for (int i = 0; i < kerbs; i++) x.kerb(0, i, 0, 60);
            for (int i = 0; i < skips; i++) x.skip(1);
            for (int i = 0; i < tips; i++) x.tip(i, 0, 1, 0, 23, 0);
            for (int i = 0; i < permits; i++) x.permit(0, 0, 13);
            return x;
        };
    }

    /** MILES of a tour to a KERB and a TIP, from THE YARD and to it. */
    private static int tour(int kerbX, int kerbY, int tipX, int tipY) {
        SkipCity x = new SkipCity();
        x.kerb(0, kerbX, kerbY, 60);
        x.tip(tipX, tipY, 1, 12, 12, 0);
        x.task(0, 1, 0);
        return x.plan(1);
    }

    private static void places() {
        says("T1", "THE YARD and all else stand at x, y (0 to 99 each); THE YARD at 50, 50.", () -> {
            due("all at THE YARD", tour(50, 50, 50, 50), 0);
            due("a KERB a mile above", tour(50, 51, 50, 50), 2);
            due("a KERB a mile below", tour(50, 49, 50, 50), 2);
            due("a TIP a mile left", tour(50, 50, 49, 50), 2);
            due("a TIP a mile right", tour(50, 50, 51, 50), 2);
            range("KERB at x", Town::empty, 0, 99, (x, v) -> x.kerb(0, v, 0, 9), 0);
            range("KERB at y", Town::empty, 0, 99, (x, v) -> x.kerb(0, 0, v, 9), 0);
            range("TIP at x", Town::empty, 0, 99, (x, v) -> x.tip(v, 0, 1, 0, 0, 0), 0);
            range("TIP at y", Town::empty, 0, 99, (x, v) -> x.tip(0, v, 1, 0, 0, 0), 0);
        });
        says("T1", "MILES from one place to another: the amounts of differences of x, of y together.", () -> {
            due("least corner to the greatest", tour(0, 0, 99, 99), 100 + 198 + 98);
            due("greatest corner to the least", tour(99, 99, 0, 0), 98 + 198 + 100);
            due("one corner to the other", tour(0, 99, 99, 0), 99 + 198 + 99);
            due("differences that would make up for each other", tour(40, 60, 60, 40), 20 + 40 + 20);
        });
        says("T1", "BOROUGHS 0 .. 3.", () -> {
            range("KERB in a BOROUGH", Town::empty, 0, 3, (x, v) -> x.kerb(v, 0, 0, 9), 0);
            range("LAW of a BOROUGH", Town::empty, 0, 3, (x, v) -> x.law(v, 0), 14);
            SkipCity x = new SkipCity();
            for (int borough = 0; borough <= 3; borough++) {
                x.kerb(borough, 0, 0, 9);
                due("its BOROUGH", x.about(borough, 0), borough);
            }
        });
    }

    private static void things() {
        says("T1", "KERBS 0 .. 23 (24 at most) are in a BOROUGH, at x, y, so many FEET long (4 to 60), REFUSED or not "
            + "(not at first).", () -> {
                answers("the first KERB", with(0, 0, 0, 0), x -> x.kerb(0, 0, 0, 9), 0);
                answers("the last KERB", with(23, 0, 0, 0), x -> x.kerb(0, 0, 0, 9), 23);
                refused("one KERB more", with(24, 0, 0, 0), x -> x.kerb(0, 0, 0, 9), FULL);
                range("FEET", Town::empty, 4, 60, (x, v) -> x.kerb(0, 0, 0, v), 0);
                range("the last of 24 KERBS", with(24, 0, 0, 0), 0, 23, (x, v) -> x.about(v, 3), 60);
                answers("not REFUSED at first", with(24, 0, 0, 0), x -> x.about(23, 4), 0);
            });
        says("T1", "SKIPS 0 .. 39 (40 at most) have a SIZE (1 to 12); a SKIP takes 4 and SIZE FEET of a KERB.", () -> {
            answers("the first SKIP", with(0, 0, 0, 0), x -> x.skip(1), 0);
            answers("the last SKIP", with(0, 39, 0, 0), x -> x.skip(1), 39);
            refused("one SKIP more", with(0, 40, 0, 0), x -> x.skip(1), FULL);
            range("SIZE", Town::empty, 1, 12, (x, v) -> x.skip(v), 0);
            for (int size = 1; size <= 12; size++) {
                due("SIZE " + size + " in its FEET", feet(size, 4 + size).let(0, 0, 0, 0), 0);
                due("no FEET are left", standing(size, 4 + size).about(0, 5), 0);
                due("SIZE " + size + " in a foot less", feet(size, 3 + size).let(0, 0, 0, 0), NOT);
                due("a foot is left", standing(size, 5 + size).about(0, 5), 1);
            }
        });
        says("T1", "TIPS 0 .. 5 (6 at most) are at x, y, take SORTS (bits 0 to 5), from an hour to another (0 to 23, the "
            + "first not above the second), and have a FEE (0 to 500, coins a ton).", CityEdges::whatTipsAre);
        says("T1", "PERMITS, 60 at most: a KERB, from a DAY to a DAY (0 to 399).", () -> {
            answers("the first PERMIT", with(1, 0, 0, 0), x -> x.permit(0, 0, 0), 0);
            answers("the last PERMIT", with(1, 0, 0, 59), x -> x.permit(0, 0, 0), 59);
            refused("one PERMIT more", with(1, 0, 0, 60), x -> x.permit(0, 0, 0), FULL);
            range("from DAY 0 or 399 on", with(1, 0, 0, 0), 0, 399, (x, v) -> x.permit(0, v, v), 0);
            range("to a DAY", with(1, 0, 0, 0), 390, 399, (x, v) -> x.permit(0, 390, v), 0);
            range("of a KERB", with(24, 0, 0, 0), 0, 23, (x, v) -> x.permit(v, 0, 0), 0);
        });
    }

    private static SkipCity feet(int size, int feet) {
        SkipCity x = new SkipCity();
        x.kerb(0, 0, 0, feet);
        x.skip(size);
        x.permit(0, 0, 0);
        return x;
    }

    private static SkipCity standing(int size, int feet) {
        SkipCity x = feet(size, feet);
        x.let(0, 0, 0, 0);
        return x;
    }

    private static SkipCity tipOf(int sorts, int from, int to) {
        SkipCity x = standing(1, 60);
        x.tip(0, 0, sorts, from, to, 0);
        return x;
    }

    private static void whatTipsAre() {
        answers("the first TIP", with(0, 0, 0, 0), x -> x.tip(0, 0, 1, 0, 0, 0), 0);
        answers("the last TIP", with(0, 0, 5, 0), x -> x.tip(0, 0, 1, 0, 0, 0), 5);
        refused("one TIP more", with(0, 0, 6, 0), x -> x.tip(0, 0, 1, 0, 0, 0), FULL);
        range("SORTS", Town::empty, 1, 63, (x, v) -> x.tip(0, 0, v, 0, 0, 0), 0);
        range("from an hour", Town::empty, 0, 23, (x, v) -> x.tip(0, 0, 1, v, 23, 0), 0);
        range("to an hour", Town::empty, 0, 23, (x, v) -> x.tip(0, 0, 1, 0, v, 0), 0);
        range("FEE", Town::empty, 0, 500, (x, v) -> x.tip(0, 0, 1, 0, 0, v), 0);
        answers("one hour alone", Town::empty, x -> x.tip(0, 0, 1, 23, 23, 0), 0);
        refused("the first an hour above the second", Town::empty, x -> x.tip(0, 0, 1, 13, 12, 0), BAD);
        refused("the first far above the second", Town::empty, x -> x.tip(0, 0, 1, 23, 0, 0), BAD);
        for (int sort = 0; sort <= 5; sort++) {
            for (int bit = 0; bit <= 5; bit++) {
                due("bit " + bit + " for SORT " + sort, tipOf(1 << bit, 0, 23).find(0, sort, 9), bit == sort ? 0 : -1);
            }
            due("all bits for SORT " + sort, tipOf(63, 0, 23).find(0, sort, 9), 0);
        }
        for (int hour = 0; hour <= 23; hour++) {
            due("open all hours, at " + hour, tipOf(1, 0, 23).find(0, 0, hour), 0);
            due("open from 7 to 9, at " + hour, tipOf(1, 7, 9).find(0, 0, hour), hour >= 7 && hour <= 9 ? 0 : -1);
            due("open at 12, at " + hour, tipOf(1, 12, 12).find(0, 0, hour), hour == 12 ? 0 : -1);
        }
    }

    private static SkipCity onDay(int day) {
        return goOn(new SkipCity(), day);
    }

    private static SkipCity goOn(SkipCity x, int days) {
        for (int left = days; left > 0; left -= 100) {
            x.pass(Math.min(100, left));
        }
        return x;
    }

    /** KERB 0 in BOROUGH 1 with a LAW, and a PERMIT for one DAY. */
    private static SkipCity underLaw(String law, int day) {
        SkipCity x = onDay(day);
        x.kerb(1, 0, 0, 60);
        x.skip(1);
        x.permit(0, day, day);
        type(x, 1, law);
        return x;
    }

    private static void days() {
        says("T1", "DAYS 0 .. 399; it is a DAY (0 at first), that goes on.", () -> {
            answers("the DAY at first", Town::empty, x -> x.count(0), 0);
            due("the greatest DAY", onDay(399).count(0), 399);
            refused("beyond it", () -> onDay(399), x -> x.pass(1), BAD);
            refusedAt("it stays or goes back by", Town::made, (x, v) -> x.pass(v), BAD, 0, -1, LEAST_INT);
            range("a DAY", Town::empty, 0, 399, (x, v) -> x.holiday(v, true), 1);
        });
        says("T1", "DAY 0 is a Monday: DAY modulo 7 is 0 .. 6, 5 and 6 being the week's end.", () -> {
            for (int day : new int[] {0, 1, 2, 3, 4, 5, 6, 7, 8, 11, 12, 13, 14, 391, 392, 396, 397, 398, 399}) {
                boolean end = day % 7 == 5 || day % 7 == 6;
                due("a SKIP on DAY " + day, underLaw("e", day).let(0, 0, 0, 399), end ? NOT : 0);
            }
        });
        says("T1", "HOLIDAYS are told by DAYS.", () -> {
            for (int day : new int[] {0, 1, 6, 7, 8, 14, 398, 399}) {
                for (int told : new int[] {0, 7, 399}) {
                    SkipCity x = underLaw("h", day);
                    x.holiday(told, true);
                    due("HOLIDAY " + told + ", a SKIP on DAY " + day, x.let(0, 0, 0, 399), day == told ? NOT : 0);
                }
            }
        });
        says("1", "`SkipCity()`: DAY 0, no KERBS, SKIPS; all SHEETS are LOST.", () -> {
            for (int what = 0; what <= 11; what++) {
                int n = what;
                answers("count " + n, SkipCity::new, x -> x.count(n), 0);
            }
            refusedAt("a KERB", SkipCity::new, (x, v) -> x.about(v, 0), BAD, 0, -1, 23);
            refusedAt("a SKIP", SkipCity::new, (x, v) -> x.where(v, 0), BAD, 0, -1, 39);
            refusedAt("a LET", SkipCity::new, (x, v) -> x.letIs(v, 0), BAD, 0, -1, 59);
            refusedAt("a SHEET", SkipCity::new, (x, v) -> x.lose(v), NULL, 0, 1, 2, 3);
        });
        says("2", "`int pass(int n)`: n DAYS (1 to 100) go by: the DAY then.", () -> {
            range("DAYS", Town::empty, 1, 100, (x, v) -> x.pass(v), 1, 100, BAD);
            due("more than once", onDay(250).pass(100), 350);
        });
        says("2", "BAD: also above 399.", () -> {
            due("to 399", onDay(300).pass(99), 399);
            refused("to 400", () -> onDay(300), x -> x.pass(100), BAD);
            due("to 399 by one", onDay(398).pass(1), 399);
            refused("to 400 by two", () -> onDay(398), x -> x.pass(2), BAD);
            refused("by so many that the DAY would wrap", () -> onDay(399), x -> x.pass(MOST_INT), BAD);
        });
        says("3", "`int holiday(int day, boolean is)`: A DAY is a HOLIDAY, or not: 1; 0: it is so already.", () -> {
            for (int day : new int[] {0, 7, 399}) {
                SkipCity x = new SkipCity();
                due("not already", x.holiday(day, false), 0);
                due("a HOLIDAY", x.holiday(day, true), 1);
                due("already", x.holiday(day, true), 0);
                due("count(11)", x.count(11), 1);
                due("not any more", x.holiday(day, false), 1);
                due("not already", x.holiday(day, false), 0);
                due("count(11)", x.count(11), 0);
            }
            SkipCity all = new SkipCity();
            for (int day = 0; day <= 399; day++) {
                due("each DAY", all.holiday(day, true), 1);
            }
            due("all DAYS", all.count(11), 400);
        });
        says("3", "BAD.", () -> {
            refusedAt("HOLIDAY", Town::made, (x, v) -> x.holiday(v, true), BAD, -1, 400, LEAST_INT, MOST_INT);
            refusedAt("no HOLIDAY", Town::made, (x, v) -> x.holiday(v, false), BAD, -1, 400, LEAST_INT, MOST_INT);
        });
    }

    private static void kerbs() {
        says("4", "`int kerb(int borough, int x, int y, int feet)`: A KERB more: its number.", () -> {
            SkipCity x = new SkipCity();
            for (int i = 0; i < 24; i++) {
                due("its number", x.kerb(i % 4, i, 99 - i, 60 - i), i);
                due("how many", x.count(1), i + 1);
            }
            for (int i = 0; i < 24; i++) {
                due("BOROUGH", x.about(i, 0), i % 4);
                due("x", x.about(i, 1), i);
                due("y", x.about(i, 2), 99 - i);
                due("FEET", x.about(i, 3), 60 - i);
            }
        });
        says("4", "BAD; FULL.", () -> {
            refusedAt("BOROUGH", Town::made, (x, v) -> x.kerb(v, 0, 0, 9), BAD, -1, 4, LEAST_INT, MOST_INT);
            refusedAt("x", Town::made, (x, v) -> x.kerb(0, v, 0, 9), BAD, -1, 100, LEAST_INT, MOST_INT);
            refusedAt("y", Town::made, (x, v) -> x.kerb(0, 0, v, 9), BAD, -1, 100, LEAST_INT, MOST_INT);
            refusedAt("FEET", Town::made, (x, v) -> x.kerb(0, 0, 0, v), BAD, 3, 61, 0, LEAST_INT, MOST_INT);
            Supplier<SkipCity> full = with(24, 0, 0, 0);
            refused("FULL", full, x -> x.kerb(3, 99, 99, 60), FULL);
            refused("BAD BOROUGH ahead of FULL", full, x -> x.kerb(4, 0, 0, 9), BAD);
            refused("BAD x ahead of FULL", full, x -> x.kerb(0, 100, 0, 9), BAD);
            refused("BAD y ahead of FULL", full, x -> x.kerb(0, 0, -1, 9), BAD);
            refused("BAD FEET ahead of FULL", full, x -> x.kerb(0, 0, 0, 3), BAD);
        });
        says("5", "`int refuse(int kerb, boolean is)`: A KERB is REFUSED, or not: 1; 0: it is so already.", () -> {
            for (int kerb : new int[] {0, 23}) {
                SkipCity x = with(24, 0, 0, 0).get();
                due("not already", x.refuse(kerb, false), 0);
                due("REFUSED", x.refuse(kerb, true), 1);
                due("already", x.refuse(kerb, true), 0);
                due("it is", x.about(kerb, 4), 1);
                due("another is not", x.about(23 - kerb, 4), 0);
                due("not any more", x.refuse(kerb, false), 1);
                due("not already", x.refuse(kerb, false), 0);
                due("it is not", x.about(kerb, 4), 0);
            }
        });
        says("5", "BAD.", () -> {
            refusedAt("REFUSED", Town::made, (x, v) -> x.refuse(v, true), BAD, -1, 4, LEAST_INT, MOST_INT);
            refusedAt("not REFUSED", Town::made, (x, v) -> x.refuse(v, false), BAD, -1, 4, LEAST_INT, MOST_INT);
            refusedAt("without KERBS", Town::empty, (x, v) -> x.refuse(v, true), BAD, 0);
        });
        says("6", "`int about(int kerb, int what)`: Of a KERB: 0 BOROUGH, 1 x, 2 y, 3 FEET, 4 whether REFUSED, 5 FEET that "
            + "are free, 6 whether it has a PERMIT for the DAY.", CityEdges::aboutKerbs);
        says("6", "BAD.", () -> {
            refusedAt("KERB", Town::made, (x, v) -> x.about(v, 0), BAD, -1, 4, LEAST_INT, MOST_INT);
            refusedAt("what", Town::made, (x, v) -> x.about(0, v), BAD, -1, 7, LEAST_INT, MOST_INT);
        });
    }

    private static void aboutKerbs() {
        SkipCity x = new SkipCity();
        x.kerb(3, 7, 8, 16);
        long[] of = {3, 7, 8, 16, 0, 16, 0};
        answers("a new KERB", of, what -> x.about(0, what));
        x.permit(0, 0, 0);
        x.skip(12);
        x.let(0, 0, 0, 0);
        x.refuse(0, true);
        answers("a full KERB", new long[] {3, 7, 8, 16, 1, 0, 1}, what -> x.about(0, what));
        x.pass(1);
        due("its PERMIT ended", x.about(0, 6), 0);
        x.fetch(0, 0, 0);
        due("it is free again", x.about(0, 5), 16);
        SkipCity y = new SkipCity();
        y.kerb(0, 0, 0, 60);
        y.kerb(0, 0, 0, 60);
        y.permit(0, 3, 5);
        y.permit(0, 7, 7);
        int[] has = {0, 0, 0, 1, 1, 1, 0, 1, 0};
        for (int day = 0; day < has.length; day++) {
            due("a PERMIT for DAY " + day, y.about(0, 6), has[day]);
            due("another KERB's", y.about(1, 6), 0);
            y.pass(1);
        }
    }

    private static void skips() {
        says("7", "`int skip(int size)`: A SKIP more, in THE YARD: its number.", () -> {
            SkipCity x = new SkipCity();
            for (int i = 0; i < 40; i++) {
                due("its number", x.skip(i % 12 + 1), i);
                due("how many", x.count(2), i + 1);
                due("in THE YARD", x.count(3), i + 1);
                due("where", x.where(i, 1), -1);
                due("its SIZE", x.where(i, 0), i % 12 + 1);
            }
        });
        says("7", "BAD; FULL.", () -> {
            refusedAt("SIZE", Town::made, (x, v) -> x.skip(v), BAD, 0, 13, -1, LEAST_INT, MOST_INT);
            refused("FULL", with(0, 40, 0, 0), x -> x.skip(12), FULL);
            refused("BAD ahead of FULL", with(0, 40, 0, 0), x -> x.skip(0), BAD);
            refused("BAD ahead of FULL", with(0, 40, 0, 0), x -> x.skip(13), BAD);
        });
        says("8", "`int where(int skip, int what)`: Of a SKIP: 0 SIZE, 1 its KERB (NONE: THE YARD), 2 the LET it is in "
            + "(NONE).", () -> {
                SkipCity x = with(2, 40, 0, 0).get();
                x.permit(1, 0, 0);
                answers("in THE YARD", new long[] {1, -1, -1}, what -> x.where(39, what));
                x.let(39, 1, 0, 0);
                x.let(0, 1, 0, 0);
                answers("in a LET", new long[] {1, 1, 0}, what -> x.where(39, what));
                answers("in another", new long[] {1, 1, 1}, what -> x.where(0, what));
                x.fetch(0, 0, 0);
                answers("FETCHED", new long[] {1, -1, -1}, what -> x.where(39, what));
                x.let(39, 1, 0, 0);
                answers("in a LET again", new long[] {1, 1, 2}, what -> x.where(39, what));
            });
        says("8", "BAD.", () -> {
            refusedAt("SKIP", Town::made, (x, v) -> x.where(v, 0), BAD, -1, 5, LEAST_INT, MOST_INT);
            refusedAt("what", Town::made, (x, v) -> x.where(0, v), BAD, -1, 3, LEAST_INT, MOST_INT);
        });
    }

    private static void tips() {
        says("9", "`int tip(int x, int y, int sorts, int from, int to, int fee)`: A TIP more: its number.", () -> {
            SkipCity x = new SkipCity();
            for (int i = 0; i < 6; i++) {
                due("its number", x.tip(i, i, 1 << i, i, i, i), i);
                due("how many", x.count(4), i + 1);
            }
        });
        says("9", "BAD: SORTS 1 to 63; FULL.", () -> {
            refusedAt("SORTS", Town::made, (x, v) -> x.tip(0, 0, v, 0, 0, 0), BAD, 0, 64, -1, LEAST_INT, MOST_INT);
            refusedAt("x", Town::made, (x, v) -> x.tip(v, 0, 1, 0, 0, 0), BAD, -1, 100);
            refusedAt("y", Town::made, (x, v) -> x.tip(0, v, 1, 0, 0, 0), BAD, -1, 100);
            refusedAt("from", Town::made, (x, v) -> x.tip(0, 0, 1, v, 23, 0), BAD, -1, 24);
            refusedAt("to", Town::made, (x, v) -> x.tip(0, 0, 1, 5, v, 0), BAD, -1, 4, 24);
            refusedAt("FEE", Town::made, (x, v) -> x.tip(0, 0, 1, 0, 0, v), BAD, -1, 501);
            Supplier<SkipCity> full = with(0, 0, 6, 0);
            refused("FULL", full, x -> x.tip(99, 99, 63, 23, 23, 500), FULL);
            refused("BAD SORTS ahead of FULL", full, x -> x.tip(0, 0, 64, 0, 0, 0), BAD);
            refused("BAD x ahead of FULL", full, x -> x.tip(100, 0, 1, 0, 0, 0), BAD);
            refused("BAD y ahead of FULL", full, x -> x.tip(0, -1, 1, 0, 0, 0), BAD);
            refused("BAD hours ahead of FULL", full, x -> x.tip(0, 0, 1, 1, 0, 0), BAD);
            refused("BAD FEE ahead of FULL", full, x -> x.tip(0, 0, 1, 0, 0, 501), BAD);
        });
        says("10", "`int drift(int tip, int d)`: DRIFT of a TIP: what it was.", () -> {
            for (int tip : new int[] {0, 5}) {
                SkipCity x = with(0, 0, 6, 0).get();
                due("at first", x.drift(tip, -50), 0);
                due("the least", x.drift(tip, 50), -50);
                due("the greatest", x.drift(tip, 1), 50);
                due("another's", x.drift(5 - tip, 0), 0);
            }
        });
        says("10", "BAD: -1000.", () -> {
            refusedAt("TIP", Town::made, (x, v) -> x.drift(v, 7), -1000, -1, 3, 5, LEAST_INT, MOST_INT);
            refusedAt("DRIFT", Town::made, (x, v) -> x.drift(1, v), -1000, -51, 51, -1000, LEAST_INT, MOST_INT);
            refusedAt("without TIPS", Town::empty, (x, v) -> x.drift(v, 0), -1000, 0);
        });
    }

    private static void permits() {
        says("11", "`int permit(int kerb, int from, int to)`: A PERMIT more: its number.", () -> {
            SkipCity x = with(2, 0, 0, 0).get();
            for (int i = 0; i < 60; i++) {
                due("its number", x.permit(i % 2, i, i + 13), i);
                due("how many", x.count(5), i + 1);
            }
            SkipCity past = with(1, 0, 0, 0).get();
            past.pass(50);
            due("for a DAY that is past", past.permit(0, 0, 13), 0);
            past.refuse(0, true);
            due("of a KERB that is REFUSED", past.permit(0, 50, 50), 1);
            due("it has it", past.about(0, 6), 1);
        });
        says("11", "BAD; NOT: for more DAYS than its BOROUGH's LAW says; FULL.", CityEdges::permitsRefused);
    }

    private static Supplier<SkipCity> byLaw(String law, int permits) {
        return () -> {
            SkipCity x = with(1, 0, 0, permits).get();
            type(x, 0, law);
            return x;
        };
    }

    private static void permitsRefused() {
        refusedAt("KERB", Town::made, (x, v) -> x.permit(v, 5, 5), BAD, -1, 4, LEAST_INT, MOST_INT);
        refusedAt("from", Town::made, (x, v) -> x.permit(0, v, 5), BAD, -1, 6, 400, LEAST_INT, MOST_INT);
        refusedAt("to", Town::made, (x, v) -> x.permit(0, 395, v), BAD, -1, 394, 400, LEAST_INT, MOST_INT);
        int[] most = {14, 1, 2, 98, 99, 14};
        String[] laws = {"", "d1", "d2", "d98", "d99", "d100"};
        for (int i = 0; i < laws.length; i++) {
            int n = most[i];
            answers("as many DAYS as " + laws[i] + " says", byLaw(laws[i], 0), x -> x.permit(0, 0, n - 1), 0);
            answers("the last DAYS", byLaw(laws[i], 0), x -> x.permit(0, 400 - n, 399), 0);
            refused("one DAY more", byLaw(laws[i], 0), x -> x.permit(0, 0, n), NOT);
            refused("one DAY more, at the end", byLaw(laws[i], 0), x -> x.permit(0, 399 - n, 399), NOT);
        }
        refused("all DAYS", byLaw("d99", 0), x -> x.permit(0, 0, 399), NOT);
        refused("BAD KERB ahead of NOT", Town::made, x -> x.permit(4, 0, 99), BAD);
        refused("BAD DAY ahead of NOT", Town::made, x -> x.permit(0, 0, 400), BAD);
        refused("BAD DAY ahead of NOT", Town::made, x -> x.permit(0, -1, 99), BAD);
        refused("FULL", byLaw("", 60), x -> x.permit(0, 0, 13), FULL);
        refused("NOT ahead of FULL", byLaw("", 60), x -> x.permit(0, 0, 14), NOT);
        refused("BAD KERB ahead of FULL", byLaw("", 60), x -> x.permit(1, 0, 0), BAD);
        refused("BAD DAYS ahead of FULL", byLaw("", 60), x -> x.permit(0, 1, 0), BAD);
        refused("BAD ahead of NOT and FULL", byLaw("", 60), x -> x.permit(0, 0, 400), BAD);
    }
}
