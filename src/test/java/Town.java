/** A small city with something of everything. */
final class Town {
    private Town() { }

    static SkipCity empty() {
        return new SkipCity();
    }

    /**
     * DAY 4 (a Friday). KERB 0 (BOROUGH 0) with LET 0 (FETCHED, WEIGHED twice, DRAWN), LET 2 (standing);
     * KERB 1 (BOROUGH 1) with LET 1 (FETCHED, not WEIGHED); KERB 2 REFUSED; KERB 3 without a PERMIT.
     * SKIPS 0 (size 4, in THE YARD), 1 (4, in THE YARD), 2 (4, LET 2), 3 (6, in THE YARD), 4 (12, in THE YARD).
     * SHEETS 0 (shorts, 6), 1 (bytes, 5), 2 (ints, 3), 3 LOST.
     */
    static SkipCity made() {
        SkipCity x = new SkipCity();
        x.kerb(0, 40, 50, 24);
        x.kerb(1, 60, 55, 10);
        x.kerb(2, 10, 90, 60);
        x.kerb(3, 99, 0, 30);
        for (int size : new int[] {4, 4, 4, 6, 12}) {
            x.skip(size);
        }
        x.tip(20, 50, 5, 6, 18, 10);
        x.tip(30, 50, 2, 6, 11, 500);
        x.tip(90, 50, 7, 0, 23, 0);
        type(x, 0, "l3;c7");
        type(x, 1, "d30;e;h;o999");
        type(x, 4, "s0=100;s1@3=50");
        x.permit(0, 0, 13);
        x.permit(1, 0, 13);
        x.permit(2, 0, 13);
        x.holiday(8, true);
        x.drift(1, 5);
        x.let(0, 0, 1, 2);
        x.let(1, 1, 2, 3);
        x.pass(1);
        x.let(2, 0, 1, 2);
        x.fetch(0, 1, 130);
        x.weigh(0, 0, 600, 1);
        x.sheet(0, 1, 6);
        x.put(0, 1, 0, 3);
        x.put(0, 1, 1, 2);
        x.draw(0, 20, 0);
        x.pass(1);
        x.weigh(0, 1, 700, 2);
        x.fetch(1, 5, 0);
        x.refuse(2, true);
        x.sheet(1, 0, 5);
        x.sheet(2, 2, 3);
        x.put(2, 2, 1, 77);
        x.task(0, 4, 0);
        x.task(1, 6, 2);
        x.reach(500);
        x.pass(2);
        // SIZE, so that a FINDING of another number can be told from it.
        x.sheet(3, 0, -1);
        return x;
    }

    private static void type(SkipCity x, int text, String bytes) {
        for (int i = 0; i < bytes.length(); i++) {
            x.type(text, bytes.charAt(i));
        }
    }
}
