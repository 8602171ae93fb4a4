/** A small city with something of everything, and all that can be asked of one. */
final class Town {
    private Town() { }

    static SkipCity empty() {
        return new SkipCity();
    }

    /**
     * DAY 4 (a Friday). KERB 0 (BOROUGH 0) with LET 0 (FETCHED, WEIGHED twice, DRAWN), LET 2 (standing);
     * KERB 1 (BOROUGH 1) with LET 1 (FETCHED, not WEIGHED); KERB 2 REFUSED; KERB 3 without a PERMIT.
     * SKIPS 0 (size 4, in THE YARD), 1 (4, in THE YARD), 2 (4, LET 2), 3 (6, in THE YARD), 4 (12, in THE YARD).
     * SHEETS 0 (shorts, 6), 1 (bytes, 5), 2 (ints, 3), 3 LOST.
     */
    static SkipCity made() {
        SkipCity x = new SkipCity();
        x.kerb(0, 40, 50, 24);
        x.kerb(1, 60, 55, 10);
        x.kerb(2, 10, 90, 60);
        x.kerb(3, 99, 0, 30);
        for (int size : new int[] {4, 4, 4, 6, 12}) {
            x.skip(size);
        }
        x.tip(20, 50, 5, 6, 18, 10);
        x.tip(30, 50, 2, 6, 11, 500);
        x.tip(90, 50, 7, 0, 23, 0);
        type(x, 0, "l3;c7");
        type(x, 1, "d30;e;h;o999");
        type(x, 4, "s0=100;s1@3=50");
        x.permit(0, 0, 13);
        x.permit(1, 0, 13);
        x.permit(2, 0, 13);
        x.holiday(8, true);
        x.drift(1, 5);
        x.let(0, 0, 1, 2);
        x.let(1, 1, 2, 3);
        x.pass(1);
        x.let(2, 0, 1, 2);
        x.fetch(0, 1, 130);
        x.weigh(0, 0, 600, 1);
        x.sheet(0, 1, 6);
        x.put(0, 1, 0, 3);
        x.put(0, 1, 1, 2);
        x.draw(0, 20, 0);
        x.pass(1);
        x.weigh(0, 1, 700, 2);
        x.fetch(1, 5, 0);
        x.refuse(2, true);
        x.sheet(1, 0, 5);
        x.sheet(2, 2, 3);
        x.put(2, 2, 1, 77);
        x.task(0, 4, 0);
        x.task(1, 6, 2);
        x.reach(500);
        x.pass(2);
        // SIZE, so that a FINDING of another number can be told from it.
        x.sheet(3, 0, -1);
        return x;
    }

    private static void type(SkipCity x, int text, String bytes) {
        for (int i = 0; i < bytes.length(); i++) {
            x.type(text, bytes.charAt(i));
        }
    }

    /** All that is asked in some 450 calls, but for count() 8, as asking of SHEETS changes it. */
    static String snapshot(SkipCity x) {
        StringBuilder all = new StringBuilder();
        // Whatever the latest FINDING was, it is SIZE now.
        x.sheet(0, 0, -1);
        for (int what = 0; what <= 11; what++) {
            add(all, what == 8 ? 0 : x.count(what));
        }
        for (int i = 0; i < x.count(1); i++) {
            for (int what = 0; what <= 6; what++) {
                add(all, x.about(i, what));
            }
        }
        for (int i = 0; i < x.count(2); i++) {
            for (int what = 0; what <= 2; what++) {
                add(all, x.where(i, what));
            }
        }
        lets(x, all);
        texts(x, all);
        swaps(x, all);
        sheets(x, all);
        told(x, all);
        add(all, x.digest());
        return all.toString();
    }

    private static void lets(SkipCity x, StringBuilder all) {
        for (int i = 0; i < x.count(6); i++) {
            for (int what = 0; what <= 8; what++) {
                add(all, x.letIs(i, what));
            }
            for (int what = 0; what <= 2; what++) {
                add(all, x.weighs(i, what));
            }
            for (int sort = 0; sort <= 5; sort++) {
                add(all, x.sorts(i, sort, 0));
            }
            add(all, x.sorts(i, 0, 1));
            add(all, x.sorts(i, 1, 2));
            add(all, x.over(i, 0));
            add(all, x.over(i, 1));
            add(all, x.taxed(i));
            add(all, x.lamps(i));
            add(all, x.bill(i, 1));
            add(all, x.guess(i));
            add(all, x.find(i, 1, 9));
        }
        add(all, x.lapsed());
        add(all, x.forgotten(0));
        add(all, x.forgets(0, 0));
        add(all, x.lost(1, 0, 0));
        add(all, x.lost(5, 0, 2));
        add(all, x.thieving(1, 0, 2));
        add(all, x.foretell(1, 4, 100, 1));
        add(all, x.foretell(2, 4, 100, 3));
    }

    private static void texts(SkipCity x, StringBuilder all) {
        for (int borough = 0; borough <= 3; borough++) {
            for (int what = 0; what <= 5; what++) {
                add(all, x.law(borough, what));
            }
        }
        for (int sort = 0; sort <= 5; sort++) {
            add(all, x.tax(sort, 0));
            add(all, x.tax(sort, 399));
        }
        for (int text = 0; text <= 4; text++) {
            add(all, x.fault(text));
        }
    }

    private static void swaps(SkipCity x, StringBuilder all) {
        for (int n = 1; n <= 3; n++) {
            add(all, x.plan(n));
            for (int lorry = 0; lorry < n; lorry++) {
                add(all, x.miles(n, lorry));
                add(all, x.tour(n, lorry, 0));
                add(all, x.tour(n, lorry, 1));
            }
        }
        add(all, x.bound());
    }

    private static void sheets(SkipCity x, StringBuilder all) {
        for (int s = 0; s <= 3; s++) {
            for (int form = 0; form <= 2; form++) {
                int item = x.get(s, form, 0);
                add(all, item);
                add(all, x.count(8));
                for (int i = 1; item != Integer.MIN_VALUE && i <= 8; i++) {
                    add(all, x.get(s, form, i));
                }
            }
        }
    }

    /** What is answered only when it is told anew: this comes last, as it changes the object. */
    private static void told(SkipCity x, StringBuilder all) {
        for (int tip = 0; tip < x.count(4); tip++) {
            add(all, x.drift(tip, 0));
        }
        add(all, x.reach(400));
        add(all, x.asOf(-1));
        add(all, x.holiday(8, true));
        add(all, x.holiday(9, false));
        for (int s = 0; s <= 3; s++) {
            add(all, x.lose(s));
        }
    }

    private static void add(StringBuilder all, long v) {
        all.append(v).append(' ');
    }
}
