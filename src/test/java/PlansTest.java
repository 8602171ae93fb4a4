import java.util.Random;

/** Cities that lie so close about THE YARD that many PLANS and rows have like MILES: which of them is the least. */
final class PlansTest {
    private static final int CITIES = 400;

    private final Random random;
    private final SkipCity x = new SkipCity();
    private final Model m = new Model();
    private final int span;
    private final String city;

    private PlansTest(int seed) {
        random = new Random(seed);
        span = 1 + random.nextInt(6);
        city = "city " + seed + ": ";
    }

    static void run() {
        int plans = 0;
        int none = 0;
        for (int seed = 0; seed < CITIES; seed++) {
            int miles = new PlansTest(seed).compare();
            plans += miles > 0 ? 1 : 0;
            none += miles == -3 ? 1 : 0;
        }
        Checks.due("there are many plans, and many cities without one", Math.min(plans, none) > CITIES / 5 ? 1 : 0, 1);
    }

    private int compare() {
        int kerbs = addKerbs();
        addTips();
        addTasks(kerbs);
        if (random.nextBoolean()) {
            int miles = 1 + random.nextInt(12 * span);
            due("reach", x.reach(miles), m.reach(miles));
        }
        for (int n = 1; n <= 3; n++) {
            due("plan " + n, x.plan(n), m.plan(n));
            for (int lorry = 0; lorry < n; lorry++) {
                due("miles " + n + ", " + lorry, x.miles(n, lorry), m.miles(n, lorry));
                for (int i = 0; i <= m.tasks.size(); i++) {
                    due("tour " + n + ", " + lorry + ", " + i, x.tour(n, lorry, i), m.tour(n, lorry, i));
                }
            }
        }
        due("bound", x.bound(), m.bound());
        return x.plan(2);
    }

    private int addKerbs() {
        int kerbs = 1 + random.nextInt(6);
        for (int i = 0; i < kerbs; i++) {
            int east = near();
            int north = near();
            due("kerb", x.kerb(0, east, north, 20), m.kerb(0, east, north, 20));
        }
        return kerbs;
    }

    /** Some of them take few SORTS, or are closed at NOON. */
    private void addTips() {
        int tips = 1 + random.nextInt(4);
        for (int i = 0; i < tips; i++) {
            int east = near();
            int north = near();
            int sorts = random.nextInt(4) == 0 ? 1 + random.nextInt(63) : 3;
            int from = random.nextInt(14);
            int to = random.nextInt(3) == 0 ? from : 23;
            due("tip", x.tip(east, north, sorts, from, to, 0), m.tip(east, north, sorts, from, to, 0));
        }
    }

    private void addTasks(int kerbs) {
        int tasks = random.nextInt(7);
        for (int i = 0; i < tasks; i++) {
            int kerb = random.nextInt(kerbs);
            int size = 1 + random.nextInt(2);
            int sort = random.nextInt(2);
            due("task", x.task(kerb, size, sort), m.task(kerb, size, sort));
        }
    }

    private int near() {
        return 50 - span + random.nextInt(2 * span + 1);
    }

    private void due(String what, long got, long want) {
        Checks.due(city + what, got, want);
    }
}
