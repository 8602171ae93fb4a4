import java.util.function.Supplier;

/** Promises 12 to 16: texts. */
final class TextsTest extends Case {
    static void run() {
        type();
        wipe();
        faultOfBorough();
        faultOfTax();
        law();
        tax();
    }

    private static void type() {
        SkipCity x = new SkipCity();
        for (int i = 1; i <= 60; i++) {
            due("type", x.type(0, i % 2 == 0 ? 0 : 255), i);
        }
        due("type full", x.type(0, 59), -4);
        due("type bad before full", x.type(0, 256), -2);
        due("type elsewhere", x.type(4, 59), 1);
        due("count(10)", x.count(10), 61);
        int[][] bad = {{-1, 0}, {5, 0}, {0, -1}, {0, 256}};
        for (int[] b : bad) {
            refused("type bad", Town::made, t -> t.type(b[0], b[1]), -2);
        }
        Supplier<SkipCity> full = () -> {
            SkipCity t = Town.made();
            while (t.type(4, '0') > 0) {
                due("still room", t.count(0), 4);
            }
            return t;
        };
        refused("type full", full, t -> t.type(4, '0'), -4);
    }

    private static void wipe() {
        SkipCity x = new SkipCity();
        type(x, 2, "d0");
        due("fault", x.fault(2), 1);
        due("wipe", x.wipe(2), 2);
        due("wipe again", x.wipe(2), 0);
        due("fault", x.fault(2), -1);
        type(x, 2, "d9");
        due("law after", x.law(2, 0), 9);
        due("wipe", x.wipe(2), 2);
        due("law wiped", x.law(2, 0), 14);
        type(x, 4, "s1=5");
        due("wipe tax", x.wipe(4), 4);
        due("tax wiped", x.tax(1, 9), 0);
        refused("wipe(-1)", Town::made, t -> t.wipe(-1), -2);
        refused("wipe(5)", Town::made, t -> t.wipe(5), -2);
    }

    private static void fault(int text, String bytes, int want) {
        SkipCity x = new SkipCity();
        type(x, text, bytes);
        due("fault of " + bytes, x.fault(text), want);
    }

    private static void faultOfBorough() {
        String[] well = {"", "d1", "d99", "d01", "l0", "l9", "l09", "c0", "c99", "e", "h", "o0", "o999", "o00", "o7",
            "d5;l1;c2;e;h;o3", "o3;h;e;c2;l1;d5", "e;d20;o05", "d07;l07;c07;o007"};
        for (String text : well) {
            for (int borough = 0; borough <= 3; borough++) {
                fault(borough, text, -1);
            }
        }
        fault(0, ";", 0);
        fault(0, "x", 0);
        fault(0, "D5", 0);
        fault(0, " d5", 0);
        fault(0, "s0=5", 0);
        fault(0, "5", 0);
        fault(0, "\u00ff", 0);
        fault(0, "\u0000", 0);
        fault(0, "d", 1);
        fault(0, "d;", 1);
        fault(0, "d 5", 1);
        fault(0, "d-5", 1);
        fault(0, "d0", 1);
        fault(0, "d00", 1);
        fault(0, "d0;e", 1);
        fault(0, "d000", 1);
        fault(0, "d123", 3);
        fault(0, "d5 ", 2);
        fault(0, "d5;", 3);
        fault(0, "d5;;", 3);
        fault(0, "d5;d", 3);
        fault(0, "d5;d6", 3);
        fault(0, "d5;e;d6", 5);
        fault(0, "l10", 1);
        fault(0, "l99", 1);
        fault(0, "l100", 1);
        fault(0, "l091", 3);
        fault(0, "c100", 3);
        fault(0, "e;e", 2);
        fault(0, "e5", 1);
        fault(0, "eh", 1);
        fault(0, "h;h", 2);
        fault(0, "h;o", 3);
        fault(0, "o", 1);
        fault(0, "o1234", 4);
        fault(0, "o12x", 3);
        fault(0, "o12;x", 4);
        fault(0, "d5;l1;c2;e;h;o3;", 16);
        fault(0, "d5;l1;c2;e;h;o3;o3", 16);
        fault(0, "d5/", 2);
        fault(0, "d5:", 2);
        SkipCity x = Town.made();
        due("fault of each its own", x.fault(0) + x.fault(1) + x.fault(2) + x.fault(3) + x.fault(4), -5);
        refused("fault(-1)", Town::made, t -> t.fault(-1), -2);
        refused("fault(5)", Town::made, t -> t.fault(5), -2);
    }

    private static void faultOfTax() {
        String[] well = {"", "s0=0", "s5=999", "s0@0=1", "s0@399=999", "s3@007=07", "s1=1;s1=2", "s0=1;s0@1=1;s0@01=1",
            "s0=1;s0=1;s0=1;s0=1;s0=1;s0=1;s0=1;s0=1;s0=1;s0=1;s0=1;s0=12"};
        for (String text : well) {
            fault(4, text, -1);
        }
        fault(4, "d5", 0);
        fault(4, ";", 0);
        fault(4, "S0=1", 0);
        fault(4, "s", 1);
        fault(4, "s=", 1);
        fault(4, "s6=1", 1);
        fault(4, "s9", 1);
        fault(4, "s0", 2);
        fault(4, "s00=1", 2);
        fault(4, "s0;", 2);
        fault(4, "s0@", 3);
        fault(4, "s0@=1", 3);
        fault(4, "s0@400=1", 3);
        fault(4, "s0@999", 3);
        fault(4, "s0@4001", 3);
        fault(4, "s0@1234", 6);
        fault(4, "s0@5", 4);
        fault(4, "s0@5@", 4);
        fault(4, "s0@5;", 4);
        fault(4, "s0=", 3);
        fault(4, "s0=;", 3);
        fault(4, "s0=x", 3);
        fault(4, "s0=1000", 6);
        fault(4, "s0=1@5", 4);
        fault(4, "s0=1;", 5);
        fault(4, "s0=1;x", 5);
        fault(4, "s0=1;s6=1", 6);
    }

    private static void law() {
        SkipCity x = Town.made();
        answers("law of 0", new long[] {14, 3, 7, 0, 0, 40}, what -> x.law(0, what));
        answers("law of 1", new long[] {30, 2, 5, 1, 1, 999}, what -> x.law(1, what));
        answers("law of 3", new long[] {14, 2, 5, 0, 0, 40}, what -> x.law(3, what));
        SkipCity y = new SkipCity();
        type(y, 3, "o0;c00;l0;d1");
        answers("law of zeros", new long[] {1, 0, 0, 0, 0, 0}, what -> y.law(3, what));
        type(y, 3, ";e;");
        answers("law with a fault", new long[] {14, 2, 5, 0, 0, 40}, what -> y.law(3, what));
        type(y, 3, "h");
        answers("law mended", new long[] {1, 0, 0, 1, 1, 0}, what -> y.law(3, what));
        refused("law(-1)", Town::made, t -> t.law(-1, 0), -2);
        refused("law(4)", Town::made, t -> t.law(4, 0), -2);
    }

    private static void tax() {
        SkipCity x = new SkipCity();
        type(x, 4, "s0=200;s1@10=300;s0@5=250;s5=7;s5@399=999");
        due("tax 0, 0", x.tax(0, 0), 200);
        due("tax 0, 4", x.tax(0, 4), 200);
        due("tax 0, 5", x.tax(0, 5), 250);
        due("tax 0, 399", x.tax(0, 399), 250);
        due("tax 1, 9", x.tax(1, 9), 0);
        due("tax 1, 10", x.tax(1, 10), 300);
        due("tax 2", x.tax(2, 399), 0);
        due("tax 5, 398", x.tax(5, 398), 7);
        due("tax 5, 399", x.tax(5, 399), 999);
        SkipCity y = new SkipCity();
        type(y, 4, "s0@9=1;s0@3=2;s1@5=3;s1=4");
        due("the last part in force", y.tax(0, 9), 2);
        due("none in force", y.tax(0, 2), 0);
        due("the last part, without a day", y.tax(1, 9), 4);
        type(y, 4, ";s");
        due("tax with a fault", y.tax(0, 9), 0);
        SkipCity z = new SkipCity();
        type(z, 4, "s0=1;s0=2;s0=3;s0=4;s0=5;s0=6;s0=7;s0=8;s0=9;s0=8;s0=7;s1=12");
        due("the twelfth part", z.tax(1, 0), 12);
        due("the eleventh part", z.tax(0, 0), 7);
        int[][] bad = {{-1, 0}, {6, 0}, {0, -1}, {0, 400}};
        for (int[] b : bad) {
            refused("tax bad", Town::made, t -> t.tax(b[0], b[1]), -2);
        }
    }
}
