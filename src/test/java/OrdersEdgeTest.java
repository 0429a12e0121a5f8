/** The edges of 'Terms', ORDERS, NUMBER, K-TH, DAYS, and of promises 16 to 19: a test for each sentence. */
public final class OrdersEdgeTest {
    private static final Due DUE = new Due("OrdersEdgeTest");
    private static final String CHAIN = "n12;a0 1;a1 2;a2 3;a3 4;a4 5;a5 6;a6 7;a7 8;a8 9;a9 10;a10 11;";
    private static final String TURNED = "11 10 9 8 7 6 5 4 3 2 1 0";
    private static final String NONES = "-9 -9 -9 -9 -9 -9 -9 -9 -9 -9 -9 -9";
    private static final long ALL_OF_12 = 479001600;

    public static void main(String[] args) {
        ordersOfNoArcs();
        ordersOfOne();
        ordersByArcs();
        ordersAsThingsAreNow();
        numberOfTheLeast();
        numberOfTheGreatest();
        numberByTheFirstItem();
        numberAmongThoseByArcs();
        kthOfAll();
        kthOfTheLast();
        kthOfNotSoMany();
        kthOfWrongPlaces();
        kthBelow0();
        kthOfOne();
        kthChangesNothing();
        daysOfHands();
        daysOfWrongHands();
        daysOfNoArcs();
        daysOfAChain();
        daysBeforeAlone();
        daysAreTheFewest();
        daysByNoRuleOfThumb();
        DUE.end();
    }

    private static void ordersOfNoArcs() {
        DUE.says("ORDERS: how many there are by ARCS.");
        long due = 1;
        for (int n = 1; n <= 12; n++) {
            due *= n;
            DUE.is("orders() of " + n, Due.of("n" + n + ";").orders(), due);
        }
        DUE.is("a new object", new ArcOrder().orders(), 24);
    }

    private static void ordersOfOne() {
        DUE.says("`long orders()`: ORDERS.");
        DUE.is("one item", Due.of("n1;").orders(), 1);
        DUE.is("one chain", Due.of(CHAIN).orders(), 1);
        DUE.is("an arc between any two", ItemsEdgeTest.withAllArcs().orders(), 1);
        DUE.is("two items, an arc", Due.of("n2;a1 0;").orders(), 1);
    }

    private static void ordersByArcs() {
        DUE.says("how many there are by ARCS");
        DUE.is("one arc of twelve", Due.of("n12;a0 1;").orders(), ALL_OF_12 / 2);
        DUE.is("the other way", Due.of("n12;a1 0;").orders(), ALL_OF_12 / 2);
        DUE.is("a spare arc", Due.of("n4;a0 1;a1 2;a0 2;").orders(), 4);
        DUE.is("two chains of six", twoChains().orders(), 924);
        DUE.is("one ahead of all", Due.of("n5;a4 0;a4 1;a4 2;a4 3;").orders(), 24);
    }

    /** 0 .. 5 and 6 .. 11, each a chain. */
    private static ArcOrder twoChains() {
        ArcOrder x = Due.of(CHAIN);
        x.cuts(5, 6);
        return x;
    }

    private static void ordersAsThingsAreNow() {
        DUE.says("(As things are NOW; nothing is changed.)");
        ArcOrder x = Due.of("n3;");
        DUE.is("orders()", x.orders(), 6);
        x.puts(2, 0);
        DUE.is("behind puts()", x.orders(), 3);
        DUE.is("number() behind puts()", x.number(), 2);
        x.keep(0);
        x.lists(0, 1);
        x.adds();
        DUE.is("behind adds()", x.orders(), 1);
        x.undo();
        DUE.is("behind undo()", x.orders(), 3);
        x.cuts(2, 0);
        DUE.is("behind cuts()", x.orders(), 6);
        DUE.is("number() behind cuts()", x.number(), 5);
        x.back(0);
        DUE.is("behind back()", x.orders(), 3);
        Due.stored(x, "n4;");
        DUE.is("behind store()", x.orders(), 24);
        Due.stored(x, "n4;a0 1;");
        DUE.is("behind store() with an arc", x.orders(), 12);
        Due.stored(x, "n5;a0 1;");
        DUE.is("behind store() with an item more", x.orders(), 60);
        Due.stored(x, "n4;a0 1;a2 3;");
        DUE.is("two arcs", x.orders(), 6);
        Due.stored(x, "n4;a1 0;a3 0;");
        DUE.is("where arcs from each item are others", x.orders(), 8);
    }

    private static void numberOfTheLeast() {
        DUE.says("NUMBER of THE ORDER: how many are less");
        DUE.is("a new object", new ArcOrder().number(), 0);
        DUE.is("one item", Due.of("n1;").number(), 0);
        DUE.is("twelve items", Due.of("n12;").number(), 0);
        DUE.is("one order alone", Due.of("n2;a1 0;").number(), 0);
    }

    private static void numberOfTheGreatest() {
        DUE.says("how many are less (by the first ITEM, then the second ..)");
        ArcOrder x = Due.of("n12;");
        for (int u = 11; u > 5; u--) {
            x.puts(u, 11 - u);
            x.cuts(u, 11 - u);
        }
        DUE.is("order", Due.order(x), TURNED);
        DUE.is("number()", x.number(), ALL_OF_12 - 1);
        ArcOrder two = Due.of("n2;a1 0;");
        two.cuts(1, 0);
        DUE.is("of two", two.number(), 1);
        // Of two chains the second stands first: no order is greater.
        ArcOrder chains = twoChains();
        chains.puts(11, 0);
        chains.cuts(11, 0);
        DUE.is("of two chains", chains.number(), 923);
    }

    private static void numberByTheFirstItem() {
        DUE.says("(by the first ITEM, then the second ..)");
        ArcOrder last = Due.of("n3;a2 1;");
        last.cuts(2, 1);
        DUE.is("0 2 1", last.number(), 1);
        ArcOrder first = Due.of("n3;a1 0;");
        first.cuts(1, 0);
        DUE.is("1 0 2", first.number(), 2);
    }

    private static void numberAmongThoseByArcs() {
        DUE.says("`long number()`: NUMBER of THE ORDER.");
        ArcOrder x = Due.of("n4;a3 0;a1 2;");
        DUE.is("order", Due.order(x), "3 1 2 0");
        DUE.is("number()", x.number(), 5);
        DUE.is("kth of it", Due.kth(x, 5), "3 1 2 0");
    }

    private static void kthOfAll() {
        DUE.says("K-TH of these (0 on).");
        ArcOrder x = Due.of("n3;");
        String[] due = {"0 1 2", "0 2 1", "1 0 2", "1 2 0", "2 0 1", "2 1 0"};
        for (int k = 0; k < due.length; k++) {
            DUE.is("kth(" + k + ")", Due.kth(x, k), due[k]);
        }
        ArcOrder y = Due.of("n4;a3 0;a1 2;");
        String[] some = {"1 2 3 0", "1 3 0 2", "1 3 2 0", "3 0 1 2", "3 1 0 2", "3 1 2 0"};
        for (int k = 0; k < some.length; k++) {
            DUE.is("kth(" + k + ") by arcs", Due.kth(y, k), some[k]);
        }
    }

    private static void kthOfTheLast() {
        DUE.says("The ITEM at a PLACE of the K-TH order");
        ArcOrder x = Due.of("n12;");
        DUE.is("the first", Due.kth(x, 0), "0 1 2 3 4 5 6 7 8 9 10 11");
        DUE.is("the last", Due.kth(x, ALL_OF_12 - 1), TURNED);
        DUE.is("the last with 0 ahead", Due.kth(x, ALL_OF_12 / 12 - 1), "0 11 10 9 8 7 6 5 4 3 2 1");
        DUE.is("the first with 1 ahead", Due.kth(x, ALL_OF_12 / 12), "1 0 2 3 4 5 6 7 8 9 10 11");
        DUE.is("of one chain", Due.kth(Due.of(CHAIN), 0), "0 1 2 3 4 5 6 7 8 9 10 11");
        DUE.is("of two chains", Due.kth(twoChains(), 923), "6 7 8 9 10 11 0 1 2 3 4 5");
    }

    private static void kthOfNotSoMany() {
        DUE.says("NONE: there are not so many.");
        ArcOrder x = Due.of("n12;");
        long[] beyond = {
            ALL_OF_12, ALL_OF_12 + 1, Integer.MAX_VALUE, 1L << 31, 1L << 32, (1L << 32) + 1, Long.MAX_VALUE,
        };
        for (long k : beyond) {
            DUE.is("kth(" + k + ")", Due.kth(x, k), NONES);
        }
        DUE.is("of one chain, kth(0)", Due.of(CHAIN).kth(0, 11), 11);
        DUE.is("of one chain, kth(1)", Due.kth(Due.of(CHAIN), 1), NONES);
        DUE.is("of one chain, kth(2^32)", Due.kth(Due.of(CHAIN), 1L << 32), NONES);
    }

    private static void kthOfWrongPlaces() {
        DUE.says("BAD: a PLACE, k below 0.");
        ArcOrder x = Due.of("n12;");
        int[] never = {Integer.MIN_VALUE, -2, -1, 12, 13, 32, 256, Integer.MAX_VALUE};
        for (int place : never) {
            DUE.is("kth(0, " + place + ")", x.kth(0, place), ArcOrder.BAD);
            DUE.is("BAD is ahead of NONE", x.kth(Long.MAX_VALUE, place), ArcOrder.BAD);
        }
        DUE.is("kth(0, 0)", x.kth(0, 0), 0);
        DUE.is("kth(0, 11)", x.kth(0, 11), 11);
        ArcOrder four = new ArcOrder();
        DUE.is("kth(0, 3)", four.kth(0, 3), 3);
        DUE.is("kth(0, 4)", four.kth(0, 4), ArcOrder.BAD);
    }

    private static void kthBelow0() {
        DUE.says("k below 0.");
        ArcOrder x = Due.of("n12;");
        long[] below = {-1, -2, -(1L << 32), -(1L << 32) + 1, Integer.MIN_VALUE, Long.MIN_VALUE, Long.MIN_VALUE + 1};
        for (long k : below) {
            DUE.is("kth(" + k + ", 0)", x.kth(k, 0), ArcOrder.BAD);
            DUE.is("kth(" + k + ", 11)", x.kth(k, 11), ArcOrder.BAD);
            DUE.is("kth(" + k + ", 12)", x.kth(k, 12), ArcOrder.BAD);
        }
    }

    private static void kthOfOne() {
        DUE.says("of the K-TH order; NONE: there are not so many.");
        ArcOrder x = Due.of("n1;");
        DUE.is("kth(0, 0)", x.kth(0, 0), 0);
        DUE.is("kth(1, 0)", x.kth(1, 0), ArcOrder.NONE);
        DUE.is("kth(0, 1)", x.kth(0, 1), ArcOrder.BAD);
        DUE.is("kth(1, 1)", x.kth(1, 1), ArcOrder.BAD);
        DUE.is("kth(-1, 0)", x.kth(-1, 0), ArcOrder.BAD);
    }

    private static void kthChangesNothing() {
        DUE.says("nothing is changed.)");
        ArcOrder x = Due.of("n4;a3 0;");
        String ahead = Probe.light(x);
        x.kth(1, 2);
        x.kth(99, 2);
        x.orders();
        x.number();
        x.days(2);
        DUE.is("behind these", Probe.light(x), ahead);
    }

    private static void daysOfHands() {
        DUE.says("DAYS for w hands (1 .. 3): each day w ITEMS at most are made");
        ArcOrder x = Due.of("n12;");
        DUE.is("days(1)", x.days(1), 12);
        DUE.is("days(2)", x.days(2), 6);
        DUE.is("days(3)", x.days(3), 4);
    }

    private static void daysOfWrongHands() {
        DUE.says("`int days(int hands)`: DAYS. BAD.");
        ArcOrder x = Due.of("n12;");
        int[] never = {Integer.MIN_VALUE, -3, -1, 0, 4, 5, 12, 256, Integer.MAX_VALUE};
        for (int hands : never) {
            DUE.is("days(" + hands + ")", x.days(hands), ArcOrder.BAD);
        }
    }

    private static void daysOfNoArcs() {
        DUE.says("the fewest days for all.");
        for (int n = 1; n <= 12; n++) {
            ArcOrder x = Due.of("n" + n + ";");
            for (int hands = 1; hands <= 3; hands++) {
                DUE.is("days(" + hands + ") of " + n, x.days(hands), (n + hands - 1) / hands);
            }
        }
    }

    private static void daysOfAChain() {
        DUE.says("each such that all ahead of it by ARCS were made on days before");
        ArcOrder chain = Due.of(CHAIN);
        ArcOrder all = ItemsEdgeTest.withAllArcs();
        for (int hands = 1; hands <= 3; hands++) {
            DUE.is("one chain, days(" + hands + ")", chain.days(hands), 12);
            DUE.is("an arc between any two, days(" + hands + ")", all.days(hands), 12);
        }
        ArcOrder two = twoChains();
        DUE.is("two chains, days(1)", two.days(1), 12);
        DUE.is("two chains, days(2)", two.days(2), 6);
        DUE.is("two chains, days(3)", two.days(3), 6);
    }

    private static void daysBeforeAlone() {
        DUE.says("were made on days before");
        // Not on the same day, though there are hands enough.
        ArcOrder x = Due.of("n2;a1 0;");
        DUE.is("days(2)", x.days(2), 2);
        DUE.is("days(3)", x.days(3), 2);
        DUE.is("one item, days(3)", Due.of("n1;").days(3), 1);
        DUE.is("one ahead of three, days(3)", Due.of("n4;a0 1;a0 2;a0 3;").days(3), 2);
        DUE.is("three ahead of one, days(2)", Due.of("n4;a1 0;a2 0;a3 0;").days(2), 3);
    }

    private static void daysAreTheFewest() {
        DUE.says("the fewest days");
        // The lowest ready ones first would leave a chain for too late; so would the highest ready ones first.
        DUE.is("chain of the high ones, days(2)", Due.of("n8;a4 5;a5 6;a6 7;").days(2), 4);
        DUE.is("chain of the low ones, days(2)", Due.of("n8;a0 1;a1 2;a2 3;").days(2), 4);
        DUE.is("chain of the high ones, days(3)", Due.of("n12;a8 9;a9 10;a10 11;").days(3), 4);
        // The chain of five takes a hand each day; 0 and the three behind it are made beside.
        DUE.is("many behind one, days(2)", Due.of("n9;a0 1;a0 2;a0 3;a4 5;a5 6;a6 7;a7 8;").days(2), 5);
        DUE.is("many behind one, days(3)", Due.of("n9;a0 1;a0 2;a0 3;a4 5;a5 6;a6 7;a7 8;").days(3), 5);
    }

    private static void daysByNoRuleOfThumb() {
        DUE.says("each day w ITEMS at most are made, each such that");
        // Each takes a day more by a rule of thumb: which of the ready items are made first.
        byRule("the lowest", "n5;a4 0;a3 1;a4 1;a2 0;a1 0;", 2);
        byRule("the highest", "n5;a1 2;a2 0;", 2);
        byRule("the longest chain", "n6;a4 1;a2 1;a5 3;a5 1;a5 0;", 2);
        byRule("the most behind", "n6;a4 2;a3 5;a3 2;a4 0;a1 0;a0 2;", 2);
        byRule("the most arcs", "n6;a5 4;a0 1;a2 4;a5 1;a2 1;a3 4;a4 1;", 3);
        byRule("the longest chain", "n8;a7 3;a5 2;a7 6;a7 4;a0 2;a7 2;a1 2;", 3);
        byRule("the most behind", "n8;a1 0;a3 2;a5 1;a3 0;a7 1;a4 1;", 3);
        byRule("Coffman's and Graham's labels", "n9;a4 7;a2 3;a4 8;a3 5;a3 7;a6 7;a1 0;a3 8;", 3);
    }

    private static void byRule(String rule, String text, int hands) {
        DUE.is("not by " + rule + ", days(" + hands + ")", Due.of(text).days(hands), 3);
    }
}
