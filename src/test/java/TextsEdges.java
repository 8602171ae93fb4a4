import java.util.function.Supplier;

/** The edges of texts: terms 2, promises 12 to 16. */
final class TextsEdges extends Edges {
    private static final int TAX = 4;
    private static final int[] DEFAULTS = {14, 2, 5, 0, 0, 40};

    static void run() {
        laws();
        faults();
        taxes();
        calls();
    }

    private static Supplier<SkipCity> with(int text, String bytes) {
        return () -> {
            SkipCity x = new SkipCity();
            for (int i = 0; i < bytes.length(); i++) {
                x.type(text, bytes.charAt(i));
            }
            return x;
        };
    }

    private static Supplier<SkipCity> full(int text) {
        return with(text, "s0=1;".repeat(12));
    }

    private static void fault(int text, String bytes, int want) {
        due("FAULT of " + bytes, with(text, bytes).get().fault(text), want);
    }

    /** The FAULT of a BOROUGH's text is where it is told, and its LAWS are the ones of an empty text. */
    private static void faultOfLaw(String bytes, int want) {
        SkipCity x = with(2, bytes).get();
        due("FAULT of " + bytes, x.fault(2), want);
        for (int what = 0; want >= 0 && what <= 5; what++) {
            due("LAW " + what + " by " + bytes, x.law(2, what), DEFAULTS[what]);
        }
    }

    /** The FAULT of the text of TAX is where it is told, and there is no TAX. */
    private static void faultOfTax(String bytes, int want) {
        SkipCity x = with(TAX, bytes).get();
        due("FAULT of " + bytes, x.fault(TAX), want);
        for (int sort = 0; want >= 0 && sort <= 5; sort++) {
            due("TAX of " + sort + " by " + bytes, x.tax(sort, 399), 0);
        }
    }

    private static void law(String bytes, int what, int want) {
        SkipCity x = with(3, bytes).get();
        due("FAULT of " + bytes, x.fault(3), -1);
        due("LAW " + what + " by " + bytes, x.law(3, what), want);
        due("LAW " + what + " of another BOROUGH", x.law(0, what), DEFAULTS[what]);
    }

    private static void laws() {
        says("T2", "LAWS: a text for each BOROUGH, up to 60 bytes, and one of TAX (text 4), of parts with ; between them.",
            () -> {
                for (int text = 0; text <= 4; text++) {
                    int t = text;
                    answers("the first byte", with(t, ""), x -> x.type(t, 'e'), 1);
                    answers("the 60th byte", with(t, "e".repeat(59)), x -> x.type(t, 'e'), 60);
                    refused("the 61st byte", with(t, "e".repeat(60)), x -> x.type(t, 'e'), FULL);
                    fault(t, ";", 0);
                }
                for (int borough = 0; borough <= 3; borough++) {
                    SkipCity x = with(borough, "l9;e").get();
                    for (int other = 0; other <= 3; other++) {
                        due("a text for each", x.law(other, 1), other == borough ? 9 : 2);
                    }
                    due("TAX is another", x.fault(TAX), -1);
                }
                SkipCity most = with(TAX, "s0=1;".repeat(11) + "s1=12").get();
                due("60 bytes of 12 parts", most.count(10), 60);
                due("they are well", most.fault(TAX), -1);
                due("the last one counts", most.tax(1, 0), 12);
                faultOfLaw("e;h", -1);
                faultOfLaw("eh", 1);
                faultOfLaw("e,h", 1);
                faultOfLaw("e;;h", 2);
                faultOfLaw(";e", 0);
                faultOfLaw("e;", 2);
                faultOfTax("s0=1;s1=2", -1);
                faultOfTax("s0=1s1=2", 4);
                faultOfTax("s0=1;;s1=2", 5);
                faultOfTax(";s0=1", 0);
                faultOfTax("s0=1;", 5);
            });
        says("T2", "Of a BOROUGH: d n: a PERMIT is for n DAYS at most (1 to 99; otherwise 14); l n: a SKIP has n LAMPS (0 to "
            + "9; otherwise 2); c n: a DAY of a PERMIT costs n (0 to 99; otherwise 5); e: no SKIP comes, and none is "
            + "fetched, at the week's end; h: nor on HOLIDAYS; o n: what is over, by LOADS, costs n a ton (0 to 999; "
            + "otherwise 40).", () -> {
                whatLawsSay();
                whatLawsDo();
            });
        says("T2", "Numbers of one, two figures (o: three).", () -> {
            law("d5", 0, 5);
            law("d05", 0, 5);
            law("d55", 0, 55);
            faultOfLaw("d555", 3);
            faultOfLaw("d005", 1);
            law("l5", 1, 5);
            law("l05", 1, 5);
            faultOfLaw("l055", 3);
            law("c5", 2, 5);
            law("c05", 2, 5);
            law("c55", 2, 55);
            faultOfLaw("c555", 3);
            faultOfLaw("c005", 3);
            law("o5", 5, 5);
            law("o05", 5, 5);
            law("o55", 5, 55);
            law("o005", 5, 5);
            law("o555", 5, 555);
            faultOfLaw("o5555", 4);
            faultOfLaw("o0005", 4);
            for (String letter : new String[] {"d", "l", "c", "o"}) {
                faultOfLaw(letter, 1);
                faultOfLaw(letter + ";", 1);
                faultOfLaw("h;" + letter, 3);
            }
            faultOfLaw("e1", 1);
            faultOfLaw("h1", 1);
        });
        says("T2", "A letter of a BOROUGH may come once.", () -> {
            String[] parts = {"d5", "l5", "c5", "e", "h", "o5"};
            for (String part : parts) {
                for (String other : parts) {
                    String both = part + ";" + other;
                    faultOfLaw(both, part.equals(other) ? part.length() + 1 : -1);
                }
                faultOfLaw("d1;l1;c1;e;h;o1;" + part, 16);
            }
            faultOfLaw("d5;e;d6", 5);
            faultOfLaw("d5;d", 3);
            SkipCity x = with(0, "e").get();
            type(x, 1, "e");
            due("once in each BOROUGH", x.fault(0) + x.fault(1), -2);
        });
    }

    private static void whatLawsSay() {
        law("d1", 0, 1);
        law("d99", 0, 99);
        faultOfLaw("d0", 1);
        faultOfLaw("d00", 1);
        faultOfLaw("d100", 3);
        law("e", 0, 14);
        law("l0", 1, 0);
        law("l9", 1, 9);
        faultOfLaw("l10", 1);
        faultOfLaw("l99", 1);
        faultOfLaw("l-1", 1);
        law("e", 1, 2);
        law("c0", 2, 0);
        law("c99", 2, 99);
        faultOfLaw("c100", 3);
        law("e", 2, 5);
        law("e", 3, 1);
        law("h", 3, 0);
        law("h", 4, 1);
        law("e", 4, 0);
        law("o0", 5, 0);
        law("o999", 5, 999);
        faultOfLaw("o1000", 4);
        law("e", 5, 40);
    }

    /** LET 0 of SIZE 1 (FETCHED on DAY 7 with height 100, WEIGHED 220, so 100 OVER), by a LAW. */
    private static SkipCity load(String law) {
        SkipCity x = new SkipCity();
        x.kerb(0, 0, 0, 60);
        x.tip(0, 0, 63, 0, 23, 0);
        x.permit(0, 0, 13);
        x.skip(1);
        x.let(0, 0, 0, 399);
        type(x, 0, law);
        x.pass(7);
        x.fetch(0, 0, 100);
        x.weigh(0, 0, 220, 7);
        return x;
    }

    private static void whatLawsDo() {
        int[] numbers = {0, 1, 9, 99, 999};
        for (int n : numbers) {
            if (n <= 9) due("LAMPS by l" + n, load("l" + n).lamps(0), 7 * n);
            if (n <= 99) due("PERMIT by c" + n, load("c" + n).bill(0, 1), 8 * n);
            due("OVER by o" + n, load("o" + n).bill(0, 4), n);
        }
        due("LAMPS otherwise", load("e").lamps(0), 14);
        due("PERMIT otherwise", load("e").bill(0, 1), 40);
        due("OVER otherwise", load("e").bill(0, 4), 40);
        for (int day = 0; day <= 14; day++) {
            boolean end = day % 7 >= 5;
            for (int holiday = 0; holiday <= 1; holiday++) {
                boolean is = holiday == 1;
                mayGo("", day, is, true);
                mayGo("e", day, is, !end);
                mayGo("h", day, is, !is);
                mayGo("e;h", day, is, !end && !is);
            }
        }
    }

    /** Whether a SKIP may come, be FETCHED, be SWAPPED by a LAW on a DAY that is a HOLIDAY, or not. */
    private static void mayGo(String law, int day, boolean holiday, boolean may) {
        Supplier<SkipCity> made = () -> {
            SkipCity x = new SkipCity();
            x.kerb(0, 0, 0, 60);
            for (int i = 0; i < 3; i++) x.skip(1);
            x.permit(0, 0, 13);
            x.permit(0, 14, 14);
            x.let(0, 0, 0, 399);
            type(x, 0, law);
            if (day > 0) x.pass(day);
            x.holiday(day, holiday);
            return x;
        };
        String by = "by " + law + " on DAY " + day + (holiday ? ", a HOLIDAY" : "");
        answers("let " + by, made, x -> x.let(1, 0, 0, 399), may ? 1 : NOT);
        answers("fetch " + by, made, x -> x.fetch(0, 0, 0), may ? 1 : NOT);
        answers("swap " + by, made, x -> x.swap(0, 0, 0, 1, 399), may ? 1 : NOT);
    }

    private static void faults() {
        says("T2", "An empty text is well.", () -> {
            for (int text = 0; text <= 4; text++) {
                fault(text, "", -1);
                SkipCity x = with(text, "x").get();
                due("with a FAULT", x.fault(text), 0);
                x.wipe(text);
                due("wiped", x.fault(text), -1);
            }
            for (int what = 0; what <= 5; what++) {
                due("LAW otherwise", new SkipCity().law(0, what), DEFAULTS[what]);
                due("TAX of none", new SkipCity().tax(what, 0), 0);
            }
        });
        says("T2", "The FAULT is the place of the first byte with which it cannot go on, or of the first figure of a number "
            + "that may not be, or of a letter that came before.", TextsEdges::placesOfFaults);
        says("T2", "A text with a FAULT is as an empty one.", () -> {
            SkipCity x = with(1, "d9;l9;c9;e;h;o9").get();
            long[] said = {9, 9, 9, 1, 1, 9};
            answers("well", said, what -> x.law(1, what));
            type(x, 1, ";");
            answers("with a FAULT", new long[] {14, 2, 5, 0, 0, 40}, what -> x.law(1, what));
            due("but not empty", x.wipe(1), 16);
            type(x, 1, "l3;");
            due("l3;", x.law(1, 1), 2);
            type(x, 1, "e");
            due("l3;e", x.law(1, 1), 3);
            type(x, 1, "e");
            due("l3;ee", x.law(1, 1), 2);
            SkipCity y = with(TAX, "s0=9").get();
            due("well", y.tax(0, 0), 9);
            type(y, TAX, ";s6");
            due("with a FAULT", y.tax(0, 0), 0);
            y.wipe(TAX);
            type(y, TAX, "s0=8");
            due("well again", y.tax(0, 0), 8);
        });
    }

    private static void placesOfFaults() {
        for (int b = 0; b <= 255; b++) {
            fault(0, String.valueOf((char) b), b == 'e' || b == 'h' ? -1 : "dlco".indexOf(b) >= 0 ? 1 : 0);
            fault(TAX, String.valueOf((char) b), b == 's' ? 1 : 0);
            fault(0, "e;h" + (char) b, b == ';' ? 4 : 3);
            fault(0, "c1" + (char) b, b == ';' ? 3 : b >= '0' && b <= '9' ? -1 : 2);
            fault(0, "c" + (char) b, b >= '0' && b <= '9' ? -1 : 1);
            fault(TAX, "s" + (char) b, b >= '0' && b <= '5' ? 2 : 1);
            fault(TAX, "s0" + (char) b, b == '@' || b == '=' ? 3 : 2);
            fault(TAX, "s0@1" + (char) b, b == '=' || b >= '0' && b <= '9' ? 5 : 4);
            fault(TAX, "s0=1" + (char) b, b == ';' ? 5 : b >= '0' && b <= '9' ? -1 : 4);
        }
        // At the last byte of a full text, and behind it.
        fault(TAX, "s0=1;".repeat(11) + "s1=1x", 59);
        fault(TAX, "s0=1;".repeat(12), 60);
        fault(TAX, "s0=1;".repeat(11) + "s1@12", 60);
        // The first of more than one.
        faultOfLaw("e;x;e;d0", 2);
        faultOfLaw("e;d0;e", 3);
        faultOfLaw("e;e;d0;x", 2);
        faultOfLaw("d0x", 1);
        faultOfLaw("l10x", 1);
        faultOfLaw("l123", 1);
        faultOfTax("s6x", 1);
        faultOfTax("s9=1;x", 1);
    }

    private static void taxes() {
        says("T2", "Of TAX: s and a SORT (0 to 5), then perhaps @ and a DAY (one to three figures) from which on it is so, "
            + "then = and coins a ton (one to three figures).", () -> {
                for (int sort = 0; sort <= 5; sort++) {
                    SkipCity x = with(TAX, "s" + sort + "=7").get();
                    for (int other = 0; other <= 5; other++) {
                        due("TAX of SORT " + other, x.tax(other, 0), other == sort ? 7 : 0);
                    }
                }
                faultOfTax("s6=1", 1);
                faultOfTax("s9=1", 1);
                faultOfTax("s00=1", 2);
                faultOfTax("s=1", 1);
                faultOfTax("0=1", 0);
                faultOfTax("s0", 2);
                faultOfTax("s0@", 3);
                faultOfTax("s0@=1", 3);
                faultOfTax("s0@1", 4);
                faultOfTax("s0@1@2=1", 4);
                faultOfTax("s0=1@2", 4);
                faultOfTax("s0=", 3);
                faultOfTax("s0==1", 3);
                daysOfTax();
                coinsOfTax();
            });
        says("T2", "TAX of a SORT on a DAY: the last part for it that is in force by then; 0 without one.", () -> {
            SkipCity x = with(TAX, "s0=1;s0@5=2;s0@9=3;s1@7=4").get();
            int[] days = {0, 4, 5, 8, 9, 399};
            int[] coins = {1, 1, 2, 2, 3, 3};
            for (int i = 0; i < days.length; i++) {
                due("on DAY " + days[i], x.tax(0, days[i]), coins[i]);
            }
            due("none is in force yet", x.tax(1, 6), 0);
            due("one is", x.tax(1, 7), 4);
            due("no part for it", x.tax(2, 399), 0);
            due("of two on a DAY the last", with(TAX, "s3@5=6;s3@5=7").get().tax(3, 5), 7);
            due("of two without a DAY the last", with(TAX, "s3=6;s3=0").get().tax(3, 5), 0);
            SkipCity y = with(TAX, "s3@9=6;s3@5=7;s4@2=8").get();
            due("the last part, not the latest DAY", y.tax(3, 9), 7);
            due("another SORT's is not the last for it", y.tax(3, 5), 7);
            due("ahead of both", y.tax(3, 4), 0);
        });
    }

    private static void daysOfTax() {
        String[] texts = {"s2@0=5", "s2@1=5", "s2@01=5", "s2@001=5", "s2@99=5", "s2@099=5", "s2@100=5", "s2@398=5",
            "s2@399=5"};
        int[] from = {0, 1, 1, 1, 99, 99, 100, 398, 399};
        for (int i = 0; i < texts.length; i++) {
            SkipCity x = with(TAX, texts[i]).get();
            due(texts[i], x.fault(TAX), -1);
            due(texts[i] + ", ahead", from[i] == 0 ? 0 : x.tax(2, from[i] - 1), 0);
            due(texts[i] + ", then", x.tax(2, from[i]), 5);
            due(texts[i] + ", at last", x.tax(2, 399), 5);
        }
        // No DAY, so a number that may not be.
        faultOfTax("s2@400=5", 3);
        faultOfTax("s2@999=5", 3);
        faultOfTax("s2@0001=5", 6);
        faultOfTax("s2@3990=5", 6);
    }

    private static void coinsOfTax() {
        String[] texts = {"s2=0", "s2=9", "s2=09", "s2=009", "s2=99", "s2=100", "s2=999"};
        int[] coins = {0, 9, 9, 9, 99, 100, 999};
        for (int i = 0; i < texts.length; i++) {
            SkipCity x = with(TAX, texts[i]).get();
            due(texts[i], x.fault(TAX), -1);
            due(texts[i] + " on DAY 0", x.tax(2, 0), coins[i]);
            due(texts[i] + " on DAY 399", x.tax(2, 399), coins[i]);
        }
        faultOfTax("s2=1000", 6);
        faultOfTax("s2=0000", 6);
        faultOfTax("s2=-1", 3);
    }

    private static void calls() {
        says("12", "`int type(int text, int b)`: A byte (0 to 255) comes behind a text (0 to 4): how many.", () -> {
            range("byte", Town::empty, 0, 255, (x, v) -> x.type(0, v), 1);
            range("text", Town::empty, 0, 4, (x, v) -> x.type(v, 'e'), 1);
            for (int text = 0; text <= 4; text++) {
                SkipCity x = new SkipCity();
                for (int n = 1; n <= 60; n++) {
                    due("how many", x.type(text, n), n);
                }
                due("bytes of all texts", x.count(10), 60);
            }
        });
        says("12", "BAD; FULL.", () -> {
            for (int text = 0; text <= 4; text++) {
                int t = text;
                refusedAt("byte", Town::made, (x, v) -> x.type(t, v), BAD, -1, 256, LEAST_INT, MOST_INT);
                refused("FULL", full(t), x -> x.type(t, ';'), FULL);
                refused("BAD ahead of FULL", full(t), x -> x.type(t, 256), BAD);
                refused("BAD ahead of FULL", full(t), x -> x.type(t, -1), BAD);
            }
            refusedAt("text", Town::made, (x, v) -> x.type(v, 'e'), BAD, -1, 5, LEAST_INT, MOST_INT);
        });
        says("13", "`int wipe(int text)`: A text is empty: how many bytes it had.", () -> {
            for (int text = 0; text <= 4; text++) {
                SkipCity x = full(text).get();
                due("60 bytes", x.wipe(text), 60);
                due("none", x.wipe(text), 0);
                due("bytes of all texts", x.count(10), 0);
                due("the first byte again", x.type(text, 'd'), 1);
                due("one byte", x.wipe(text), 1);
            }
            SkipCity x = with(0, "e").get();
            type(x, 1, "h");
            x.wipe(0);
            due("the others stay", x.law(1, 4), 1);
        });
        says("13", "BAD.", () -> refusedAt("text", Town::made, (x, v) -> x.wipe(v), BAD, -1, 5, LEAST_INT, MOST_INT));
        says("14", "`int fault(int text)`: The FAULT of a text; NONE.", () -> {
            for (int text = 0; text <= 4; text++) {
                SkipCity x = with(text, text == TAX ? "s0=1" : "e").get();
                due("none", x.fault(text), -1);
                x.type(text, 0);
                due("the FAULT", x.fault(text), text == TAX ? 4 : 1);
                for (int other = 0; other <= 4; other++) {
                    due("of the others", other == text ? -1 : x.fault(other), -1);
                }
            }
        });
        says("14", "BAD.", () -> refusedAt("text", Town::made, (x, v) -> x.fault(v), BAD, -1, 5, LEAST_INT, MOST_INT));
        says("15", "`int law(int borough, int what)`: By a BOROUGH's LAW: 0 d, 1 l, 2 c, 3 e (1, 0), 4 h, 5 o.", () -> {
            for (int borough = 0; borough <= 3; borough++) {
                int b = borough;
                SkipCity x = with(b, "o6;c3;d1;l2").get();
                answers("without e, h", new long[] {1, 2, 3, 0, 0, 6}, what -> x.law(b, what));
                type(x, b, ";h;e");
                answers("with them", new long[] {1, 2, 3, 1, 1, 6}, what -> x.law(b, what));
            }
        });
        says("15", "BAD.", () -> {
            refusedAt("BOROUGH", Town::made, (x, v) -> x.law(v, 0), BAD, -1, 4, LEAST_INT, MOST_INT);
            refusedAt("what", Town::made, (x, v) -> x.law(1, v), BAD, -1, 6, LEAST_INT, MOST_INT);
        });
        says("16", "`int tax(int sort, int day)`: TAX of a SORT on a DAY.", () -> {
            SkipCity x = with(TAX, "s0=1;s5@399=9").get();
            due("SORT 0, DAY 0", x.tax(0, 0), 1);
            due("SORT 0, DAY 399", x.tax(0, 399), 1);
            due("SORT 5, DAY 0", x.tax(5, 0), 0);
            due("SORT 5, DAY 399", x.tax(5, 399), 9);
        });
        says("16", "BAD.", () -> {
            refusedAt("SORT", Town::made, (x, v) -> x.tax(v, 0), BAD, -1, 6, LEAST_INT, MOST_INT);
            refusedAt("DAY", Town::made, (x, v) -> x.tax(0, v), BAD, -1, 400, LEAST_INT, MOST_INT);
        });
    }
}
