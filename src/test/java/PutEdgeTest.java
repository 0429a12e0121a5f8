/** The edges of 'Terms', PUT, RING, CUT, and of promises 8, 11, 14: a test for each sentence. */
public final class PutEdgeTest {
    private static final Due DUE = new Due("PutEdgeTest");
    private static final String CHAIN = "n12;a0 1;a1 2;a2 3;a3 4;a4 5;a5 6;a6 7;a7 8;a8 9;a9 10;a10 11;";
    /** Numbers that are never an item; 32 and 33 wrap around where they shift a bit. */
    private static final int[] NEVER = {Integer.MIN_VALUE, -32, -1, 12, 13, 31, 32, 33, 256, Integer.MAX_VALUE};

    public static void main(String[] args) {
        aheadNothingMoves();
        aheadByTheOrder();
        spanOfTwo();
        spanLeavesWhatIsBeyond();
        spanHoldsWhatIsAtItsEnds();
        afterByManyArcs();
        beforeByManyArcs();
        inAfterIsARing();
        notInAfterIsNoRing();
        beforeThenAfterAsTheyStand();
        placesThatTheseHad();
        othersKeepTheirPlaces();
        allTwelveMove();
        ringOfTheFewest();
        ringOfTwoAndOfTwelve();
        ringByTheSecondItem();
        ringByTheThirdItem();
        ringOfArcsAsTheyAre();
        putsCountsMoved();
        putsOfNoItems();
        putsOfTheSameItem();
        putsThatIsThere();
        putsOfARing();
        cutOrderStays();
        cutsCountsArcs();
        cutsOfNoItems();
        cutsThatIsNotThere();
        lapOfNone();
        lapNumbers();
        lapEnds();
        lapOfTheLast();
        lapTellsOnlyWhatWasRefused();
        DUE.end();
    }

    private static void aheadNothingMoves() {
        DUE.says("If U is ahead of V in THE ORDER, nothing moves.");
        ArcOrder x = Due.of("n12;");
        DUE.is("the next one", x.puts(0, 1), 0);
        DUE.is("the last one", x.puts(0, 11), 0);
        DUE.is("the last two", x.puts(10, 11), 0);
        DUE.is("order", Due.order(x), "0 1 2 3 4 5 6 7 8 9 10 11");
        DUE.is("arcs", x.now(0), 3);
    }

    private static void aheadByTheOrder() {
        DUE.says("ahead of V in THE ORDER");
        // 3 is ahead of 0 in the order, though 0 is the lower number.
        ArcOrder x = Due.of("n4;a3 0;");
        x.cuts(3, 0);
        DUE.is("order", Due.order(x), "3 1 2 0");
        DUE.is("puts(3, 2)", x.puts(3, 2), 0);
        DUE.is("puts(2, 0)", x.puts(2, 0), 0);
        DUE.is("order stays", Due.order(x), "3 1 2 0");
        DUE.is("puts(2, 1)", x.puts(2, 1), 2);
        DUE.is("order", Due.order(x), "3 2 1 0");
    }

    private static void spanOfTwo() {
        DUE.says("Else the SPAN is all PLACES from V's to U's");
        ArcOrder x = Due.of("n4;");
        DUE.is("puts(1, 0)", x.puts(1, 0), 2);
        DUE.is("order", Due.order(x), "1 0 2 3");
        DUE.is("puts(3, 2)", x.puts(3, 2), 2);
        DUE.is("order", Due.order(x), "1 0 3 2");
        ArcOrder two = Due.of("n2;");
        DUE.is("of two items", two.puts(1, 0), 2);
        DUE.is("order of two", Due.order(two), "1 0");
    }

    private static void spanLeavesWhatIsBeyond() {
        DUE.says("all within the SPAN; BEFORE are U");
        // 0 stands just ahead of the span and leads to 4; 5 stands just behind it and 1 leads there.
        ArcOrder x = Due.of("n6;a0 4;a1 5;");
        DUE.is("BEFORE", x.arc(4, 1, 2), 16);
        DUE.is("AFTER", x.arc(4, 1, 3), 2);
        DUE.is("puts(4, 1)", x.puts(4, 1), 2);
        DUE.is("order", Due.order(x), "0 4 2 3 1 5");
    }

    private static void spanHoldsWhatIsAtItsEnds() {
        DUE.says("BEFORE are U, and ITEMS from which ARCS lead to these, all within the SPAN");
        // 2, next to V, leads to U; V leads to 3, next to U.
        ArcOrder x = Due.of("n6;a2 4;a1 3;");
        DUE.is("BEFORE", x.arc(4, 1, 2), 20);
        DUE.is("AFTER", x.arc(4, 1, 3), 10);
        DUE.is("puts(4, 1)", x.puts(4, 1), 4);
        DUE.is("order", Due.order(x), "0 2 4 1 3 5");
    }

    private static void afterByManyArcs() {
        DUE.says("AFTER are V, and ITEMS to which ARCS lead from these");
        ArcOrder x = Due.of("n7;a0 1;a1 3;a3 4;a0 6;");
        DUE.is("AFTER of (5, 0)", x.arc(5, 0, 3), 27);
        DUE.is("BEFORE of (5, 0)", x.arc(5, 0, 2), 32);
        DUE.is("puts(5, 0)", x.puts(5, 0), 5);
        DUE.is("order", Due.order(x), "5 0 2 1 3 4 6");
    }

    private static void beforeByManyArcs() {
        DUE.says("ITEMS from which ARCS lead to these, all within the SPAN");
        ArcOrder x = Due.of("n7;a5 6;a3 5;a2 3;a0 6;");
        DUE.is("BEFORE of (6, 1)", x.arc(6, 1, 2), 108);
        DUE.is("AFTER of (6, 1)", x.arc(6, 1, 3), 2);
        DUE.is("puts(6, 1)", x.puts(6, 1), 5);
        DUE.is("order", Due.order(x), "0 2 3 5 4 6 1");
    }

    private static void inAfterIsARing() {
        DUE.says("If U is in AFTER, it would close a RING.");
        ArcOrder x = Due.of("n2;a0 1;");
        DUE.is("of two", x.puts(1, 0), ArcOrder.RING);
        ArcOrder chain = Due.of(CHAIN);
        for (int u = 1; u < 12; u++) {
            DUE.is("puts(" + u + ", 0)", chain.puts(u, 0), ArcOrder.RING);
            DUE.is("arc(" + u + ", 0, 1)", chain.arc(u, 0, 1), 1);
        }
    }

    private static void notInAfterIsNoRing() {
        DUE.says("Else ITEMS of BEFORE, then those of AFTER");
        // The chain is open at one arc: nothing leads from 0 to 6 .. 11.
        ArcOrder x = Due.of(CHAIN);
        x.cuts(5, 6);
        DUE.is("arc(11, 0, 1)", x.arc(11, 0, 1), 0);
        DUE.is("puts(11, 0)", x.puts(11, 0), 12);
        DUE.is("order", Due.order(x), "6 7 8 9 10 11 0 1 2 3 4 5");
        DUE.is("puts(5, 6), which was cut", x.puts(5, 6), ArcOrder.RING);
    }

    private static void beforeThenAfterAsTheyStand() {
        DUE.says("both as they stand");
        // 2 stands ahead of 1, and 4 ahead of 3, when the arc is put.
        ArcOrder x = Due.of("n6;a2 1;a4 3;a0 2;a0 1;a3 5;a4 5;");
        DUE.is("order ahead", Due.order(x), "0 2 1 4 3 5");
        DUE.is("puts(5, 0)", x.puts(5, 0), 6);
        DUE.is("order", Due.order(x), "4 3 5 0 2 1");
    }

    private static void placesThatTheseHad() {
        DUE.says("come to PLACES that all of these had, from the first on");
        // 1, 3 and 6 stand between and hang together with none.
        ArcOrder x = Due.of("n8;a0 2;a4 7;a5 7;");
        DUE.is("MOVED", x.arc(7, 0, 0), 1 + 4 + 16 + 32 + 128);
        DUE.is("puts(7, 0)", x.puts(7, 0), 5);
        DUE.is("order", Due.order(x), "4 1 5 3 7 0 6 2");
    }

    private static void othersKeepTheirPlaces() {
        DUE.says("all others keep theirs.");
        ArcOrder x = Due.of("n12;");
        DUE.is("puts(11, 0)", x.puts(11, 0), 2);
        DUE.is("order", Due.order(x), "11 1 2 3 4 5 6 7 8 9 10 0");
        DUE.is("puts(10, 1)", x.puts(10, 1), 2);
        DUE.is("order", Due.order(x), "11 10 2 3 4 5 6 7 8 9 1 0");
    }

    private static void allTwelveMove() {
        DUE.says("then those of AFTER, both as they stand, come to PLACES that all of these had");
        ArcOrder x = Due.of("n12;a0 2;a2 4;a4 6;a6 8;a8 10;a1 3;a3 5;a5 7;a7 9;a9 11;");
        DUE.is("puts(11, 0)", x.puts(11, 0), 12);
        DUE.is("order", Due.order(x), "1 3 5 7 9 11 0 2 4 6 8 10");
    }

    private static String ringOf(String text, int u, int v) {
        ArcOrder x = Due.of(text);
        DUE.is("puts(" + u + ", " + v + ")", x.puts(u, v), ArcOrder.RING);
        return Due.ring(x);
    }

    private static void ringOfTheFewest() {
        DUE.says("the fewest ARCS from V to U (as they are), one behind the other");
        DUE.is("a way round", ringOf("n5;a0 1;a1 2;a2 3;a3 4;a0 3;", 4, 0), "0 3 4");
        DUE.is("a way round at the end", ringOf("n5;a0 1;a1 2;a2 3;a3 4;a1 4;", 4, 0), "0 1 4");
        DUE.is("a way round it all", ringOf("n5;a0 1;a1 2;a2 3;a3 4;a0 4;", 4, 0), "0 4");
        DUE.is("part of a chain", ringOf("n5;a0 1;a1 2;a2 3;a3 4;", 3, 1), "1 2 3");
    }

    private static void ringOfTwoAndOfTwelve() {
        DUE.says("RING of an ARC from U to V");
        DUE.is("the smallest", ringOf("n2;a1 0;", 0, 1), "1 0");
        DUE.is("the greatest", ringOf(CHAIN, 11, 0), "0 1 2 3 4 5 6 7 8 9 10 11");
    }

    private static void ringByTheSecondItem() {
        DUE.says("of several the first (by the second ITEM, the lowest, then the third ..)");
        DUE.is("by the second", ringOf("n6;a0 1;a1 4;a4 5;a0 2;a2 3;a3 5;", 5, 0), "0 1 4 5");
        DUE.is("told the other way", ringOf("n6;a0 2;a2 3;a3 5;a0 1;a1 4;a4 5;", 5, 0), "0 1 4 5");
        // The order does not count, the number does: 4 is made ahead of 1 here.
        DUE.is("by the number", ringOf("n6;a0 4;a4 1;a4 5;a0 1;a1 5;", 5, 0), "0 1 5");
        // 1 is lower than 2 and 3, but no shortest way leads there.
        DUE.is("the lowest is on a longer way", ringOf("n7;a0 1;a1 4;a4 5;a5 6;a0 3;a3 6;a0 2;a2 6;", 6, 0), "0 2 6");
    }

    private static void ringByTheThirdItem() {
        DUE.says("then the third ..");
        DUE.is("by the third", ringOf("n6;a0 1;a1 4;a4 5;a1 3;a3 5;a1 2;a2 5;", 5, 0), "0 1 2 5");
        DUE.is("by the fourth", ringOf("n7;a0 1;a1 2;a2 5;a5 6;a2 4;a4 6;a2 3;a3 6;", 6, 0), "0 1 2 3 6");
        // 1 is the lower second, so 5 is the third, though 2 is lower.
        DUE.is("second before third", ringOf("n7;a0 3;a3 2;a2 6;a0 1;a1 5;a5 6;", 6, 0), "0 1 5 6");
    }

    private static void ringOfArcsAsTheyAre() {
        DUE.says("(as they are)");
        ArcOrder x = Due.of("n4;a0 1;a1 2;a2 3;a0 3;");
        x.puts(3, 0);
        DUE.is("ring", Due.ring(x), "0 3");
        x.cuts(0, 3);
        x.puts(3, 0);
        DUE.is("ring behind cuts()", Due.ring(x), "0 1 2 3");
        x.undo();
        x.puts(3, 0);
        DUE.is("ring behind undo()", Due.ring(x), "0 3");
        x.cuts(0, 3);
        x.cuts(1, 2);
        DUE.is("no ring any more", x.puts(3, 0), 4);
        DUE.is("the ring of the last one refused", Due.ring(x), "0 3");
    }

    private static void putsCountsMoved() {
        DUE.says("PUT: how many ITEMS moved.");
        DUE.is("none", Due.of("n12;").puts(0, 11), 0);
        DUE.is("the fewest that can", Due.of("n12;").puts(11, 0), 2);
        DUE.is("an odd number", Due.of("n3;a0 1;").puts(2, 0), 3);
        ArcOrder x = Due.of("n2;");
        DUE.is("all", x.puts(1, 0), 2);
        DUE.is("now(5)", x.now(5), 1);
    }

    private static void putsOfNoItems() {
        DUE.says("`int puts(int u, int v)`: PUT: how many ITEMS moved. BAD");
        ArcOrder x = Due.of("n12;");
        for (int never : NEVER) {
            DUE.is("puts(" + never + ", 0)", x.puts(never, 0), ArcOrder.BAD);
            DUE.is("puts(0, " + never + ")", x.puts(0, never), ArcOrder.BAD);
            DUE.is("puts(" + never + ", itself)", x.puts(never, never), ArcOrder.BAD);
        }
        DUE.is("now(0)", x.now(0), 0);
        DUE.is("the last item", x.puts(11, 10), 2);
        DUE.is("to the last item", x.puts(9, 11), 0);
        ArcOrder one = Due.of("n1;");
        DUE.is("one item alone", one.puts(0, 0), ArcOrder.BAD);
        DUE.is("one item and none", one.puts(0, 1), ArcOrder.BAD);
    }

    private static void putsOfTheSameItem() {
        DUE.says("BAD (the same ITEM, too); STATE: it is there; RING.");
        ArcOrder x = Due.of("n12;");
        DUE.is("puts(0, 0)", x.puts(0, 0), ArcOrder.BAD);
        DUE.is("puts(11, 11)", x.puts(11, 11), ArcOrder.BAD);
        DUE.is("no ring of one", x.lap(-1), 0);
    }

    private static void putsThatIsThere() {
        DUE.says("STATE: it is there; RING.");
        ArcOrder x = Due.of("n12;a11 0;");
        DUE.is("puts(11, 0), told", x.puts(11, 0), ArcOrder.STATE);
        DUE.is("puts(0, 11), the other way", x.puts(0, 11), ArcOrder.RING);
        x.puts(0, 5);
        DUE.is("puts(0, 5), put", x.puts(0, 5), ArcOrder.STATE);
        DUE.is("puts(11, 5), spare", x.puts(11, 5), 0);
        x.undo();
        DUE.is("puts(11, 5), undone", x.puts(11, 5), 0);
        x.lists(2, 3);
        DUE.is("puts(2, 3), listed", x.puts(2, 3), 0);
    }

    private static void putsOfARing() {
        DUE.says("RING (lap() tells it)");
        ArcOrder x = Due.of("n3;a0 1;a1 2;");
        DUE.is("puts(2, 0)", x.puts(2, 0), ArcOrder.RING);
        DUE.is("lap(-1)", x.lap(-1), 3);
        DUE.is("ring", Due.ring(x), "0 1 2");
        DUE.is("arcs", Due.arcs(x), "2 4 0");
        DUE.is("order", Due.order(x), "0 1 2");
        DUE.is("now(5)", x.now(5), 0);
    }

    private static void cutOrderStays() {
        DUE.says("CUT: an ARC (THE ORDER stays).");
        ArcOrder x = Due.of("n3;a2 0;");
        DUE.is("cuts(2, 0)", x.cuts(2, 0), 0);
        DUE.is("order", Due.order(x), "2 1 0");
        DUE.is("item(2, 1)", x.item(2, 1), 0);
        DUE.is("item(0, 2)", x.item(0, 2), 0);
        DUE.is("what was a ring is none", x.puts(0, 2), 2);
        DUE.is("order", Due.order(x), "0 1 2");
    }

    private static void cutsCountsArcs() {
        DUE.says("CUT: how many ARCS there are then.");
        ArcOrder x = ItemsEdgeTest.withAllArcs();
        int left = 66;
        for (int u = 0; u < 12; u++) {
            for (int v = u + 1; v < 12; v++) {
                left--;
                DUE.is("cuts(" + u + ", " + v + ")", x.cuts(u, v), left);
            }
        }
        DUE.is("now(0)", x.now(0), 0);
        DUE.is("of none", x.cuts(0, 1), ArcOrder.STATE);
        DUE.is("order", Due.order(x), "0 1 2 3 4 5 6 7 8 9 10 11");
    }

    private static void cutsOfNoItems() {
        DUE.says("CUT: how many ARCS there are then. BAD (the same ITEM, too)");
        ArcOrder x = Due.of("n12;a0 11;a11 1;");
        for (int never : NEVER) {
            DUE.is("cuts(" + never + ", 1)", x.cuts(never, 1), ArcOrder.BAD);
            DUE.is("cuts(0, " + never + ")", x.cuts(0, never), ArcOrder.BAD);
            DUE.is("cuts(" + never + ", itself)", x.cuts(never, never), ArcOrder.BAD);
        }
        DUE.is("cuts(0, 0)", x.cuts(0, 0), ArcOrder.BAD);
        DUE.is("cuts(11, 11)", x.cuts(11, 11), ArcOrder.BAD);
        DUE.is("cuts(0, 11)", x.cuts(0, 11), 1);
        DUE.is("cuts(11, 1)", x.cuts(11, 1), 0);
    }

    private static void cutsThatIsNotThere() {
        DUE.says("STATE: it is not there.");
        ArcOrder x = Due.of("n3;a0 1;a1 2;");
        DUE.is("the other way", x.cuts(1, 0), ArcOrder.STATE);
        DUE.is("by two arcs", x.cuts(0, 2), ArcOrder.STATE);
        x.lists(0, 2);
        DUE.is("listed", x.cuts(0, 2), ArcOrder.STATE);
        DUE.is("there", x.cuts(0, 1), 1);
        DUE.is("cut already", x.cuts(0, 1), ArcOrder.STATE);
        x.undo();
        DUE.is("there again", x.cuts(0, 1), 1);
        DUE.is("a new object", new ArcOrder().cuts(0, 1), ArcOrder.STATE);
    }

    private static void lapOfNone() {
        DUE.says("how many ITEMS (k = -1; 0: none was)");
        ArcOrder x = new ArcOrder();
        x.puts(0, 1);
        x.puts(0, 1);
        x.puts(0, 0);
        x.arc(1, 0, 1);
        DUE.is("lap(-1)", x.lap(-1), 0);
        DUE.is("lap(0)", x.lap(0), ArcOrder.NONE);
        DUE.is("lap(11)", x.lap(11), ArcOrder.NONE);
    }

    private static void lapNumbers() {
        DUE.says("NONE (not so many). BAD: k below -1.");
        ArcOrder none = new ArcOrder();
        ArcOrder all = Due.of(CHAIN);
        all.puts(11, 0);
        int[] below = {-2, -3, -4, -9, -33, Integer.MIN_VALUE};
        for (int k : below) {
            DUE.is("of none, lap(" + k + ")", none.lap(k), ArcOrder.BAD);
            DUE.is("of all, lap(" + k + ")", all.lap(k), ArcOrder.BAD);
        }
        int[] above = {12, 13, 16, 32, 256, Integer.MAX_VALUE};
        for (int k : above) {
            DUE.is("of none, lap(" + k + ")", none.lap(k), ArcOrder.NONE);
            DUE.is("of all, lap(" + k + ")", all.lap(k), ArcOrder.NONE);
        }
        DUE.is("of all, lap(-1)", all.lap(-1), 12);
        DUE.is("of all, lap(11)", all.lap(11), 11);
    }

    private static void lapEnds() {
        DUE.says("its k-th ITEM (0: V of the ARC; the last one: U)");
        ArcOrder x = Due.of("n4;a3 1;a1 0;");
        DUE.is("puts(0, 3)", x.puts(0, 3), ArcOrder.RING);
        DUE.is("lap(-1)", x.lap(-1), 3);
        DUE.is("lap(0), V", x.lap(0), 3);
        DUE.is("lap(1)", x.lap(1), 1);
        DUE.is("lap(2), U", x.lap(2), 0);
        DUE.is("lap(3)", x.lap(3), ArcOrder.NONE);
    }

    private static void lapOfTheLast() {
        DUE.says("Of the RING that was refused last");
        ArcOrder x = Due.of("n4;a0 1;a1 2;a2 3;");
        x.puts(3, 0);
        DUE.is("the first one", Due.ring(x), "0 1 2 3");
        x.puts(1, 0);
        DUE.is("a shorter one", Due.ring(x), "0 1");
        DUE.is("nothing of the longer one", x.lap(2), ArcOrder.NONE);
        x.lists(2, 0);
        x.adds();
        DUE.is("one by adds()", Due.ring(x), "0 1 2");
    }

    private static void lapTellsOnlyWhatWasRefused() {
        DUE.says("RING that was refused last: how many ITEMS");
        ArcOrder x = Due.of("n4;a0 1;");
        x.puts(1, 0);
        x.arc(1, 0, 1);
        x.puts(0, 0);
        x.puts(0, 1);
        x.puts(1, 2);
        x.lists(2, 0);
        x.cuts(0, 1);
        x.sorts();
        x.undo();
        x.keep(0);
        x.back(0);
        DUE.is("ring", Due.ring(x), "0 1");
        x.lists(2, 3);
        DUE.is("adds() that is not refused", x.adds() >= 0 ? 1 : 0, 1);
        DUE.is("ring", Due.ring(x), "0 1");
    }
}
