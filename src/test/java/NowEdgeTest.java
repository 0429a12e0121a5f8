/** The edges of 'Terms', MOVED, FREE, MOST, CHAIN, SPARE, and of promises 7, 15: a test for each sentence. */
public final class NowEdgeTest {
    private static final Due DUE = new Due("NowEdgeTest");
    private static final String CHAIN = "n12;a0 1;a1 2;a2 3;a3 4;a4 5;a5 6;a6 7;a7 8;a8 9;a9 10;a10 11;";
    /** Numbers that are never an item; 32 and 33 wrap around where they shift a bit. */
    private static final int[] NEVER = {Integer.MIN_VALUE, -32, -1, 12, 13, 31, 32, 33, 256, Integer.MAX_VALUE};

    public static void main(String[] args) {
        asThingsAreNow();
        nothingIsChanged();
        movedByNoneAndByAll();
        movedOfARing();
        movedIsWhatPutsMoves();
        freeOfNone();
        freeOfAll();
        freeIsNoArcThere();
        freeOfUnlikeItems();
        mostOfNone();
        mostOfSeveral();
        mostThatMovesNone();
        mostOfTheHighest();
        mostIsNotThere();
        mostClosesNoRing();
        chainOfOneAndOfTwelve();
        chainIsTheMost();
        spareOfNone();
        spareByOneWay();
        spareByALongWay();
        spareOfAll();
        nowWhat();
        nowUndone();
        arcMoved();
        arcRing();
        arcBeforeAndAfter();
        arcAhead();
        arcOfNoItems();
        arcWhat();
        arcOfTheSameItem();
        arcThatIsThere();
        DUE.end();
    }

    private static void asThingsAreNow() {
        DUE.says("(As things are NOW");
        ArcOrder x = Due.of("n3;");
        DUE.is("now(1)", x.now(1), 3);
        x.puts(2, 0);
        DUE.is("now(1) behind puts()", x.now(1), 2);
        DUE.is("arc(0, 1, 0) behind puts()", x.arc(0, 1, 0), 3);
        x.cuts(2, 0);
        DUE.is("now(1) behind cuts()", x.now(1), 3);
        x.sorts();
        DUE.is("arc(0, 1, 0) behind sorts()", x.arc(0, 1, 0), 0);
        x.undo();
        DUE.is("arc(0, 1, 0) behind undo()", x.arc(0, 1, 0), 3);
    }

    private static void nothingIsChanged() {
        DUE.says("nothing is changed.)");
        ArcOrder x = Due.of("n5;a4 0;a0 2;a4 2;");
        x.lists(1, 3);
        x.puts(3, 1);
        x.sees(2, 0);
        String ahead = Probe.light(x);
        Probe.asks(x);
        DUE.is("behind every ask", Probe.light(x), ahead);
    }

    private static void movedByNoneAndByAll() {
        DUE.says("MOVED of an ARC (not there): ITEMS (bits) that would have another PLACE, were it PUT");
        ArcOrder x = Due.of("n12;a0 2;a2 4;a4 6;a6 8;a8 10;a1 3;a3 5;a5 7;a7 9;a9 11;");
        DUE.is("all", x.arc(11, 0, 0), 4095);
        DUE.is("two", x.arc(11, 10, 0), 1024 + 2048);
        DUE.is("none", x.arc(0, 11, 0), 0);
        DUE.is("one item stays", x.arc(9, 0, 0), 1023);
    }

    private static void movedOfARing() {
        DUE.says("none, if it would close a RING.");
        ArcOrder x = Due.of(CHAIN);
        for (int u = 1; u < 12; u++) {
            DUE.is("arc(" + u + ", 0, 0)", x.arc(u, 0, 0), 0);
            DUE.is("arc(11, " + (u - 1) + ", 0)", x.arc(11, u - 1, 0), 0);
        }
    }

    private static void movedIsWhatPutsMoves() {
        DUE.says("would have another PLACE, were it PUT");
        for (int u = 0; u < 6; u++) {
            for (int v = 0; v < 6; v++) {
                ArcOrder x = Due.of("n6;a5 1;a1 3;a2 4;");
                int moved = x.arc(u, v, 0);
                if (moved < 0) {
                    continue;
                }
                int[] places = new int[6];
                for (int i = 0; i < 6; i++) {
                    places[i] = x.item(i, 0);
                }
                x.puts(u, v);
                int due = 0;
                for (int i = 0; i < 6; i++) {
                    due |= places[i] != x.item(i, 0) ? 1 << i : 0;
                }
                DUE.is("arc(" + u + ", " + v + ", 0)", moved, due);
            }
        }
    }

    private static void freeOfNone() {
        DUE.says("FREE: two unlike ITEMS (the one, the other), no ARC there, so that none would be MOVED");
        DUE.is("one item", Due.of("n1;").now(1), 0);
        DUE.is("two items, an arc", Due.of("n2;a1 0;").now(1), 0);
        DUE.is("an arc between any two", ItemsEdgeTest.withAllArcs().now(1), 0);
    }

    private static void freeOfAll() {
        DUE.says("so that none would be MOVED, and no RING closed.");
        DUE.is("two items", Due.of("n2;").now(1), 1);
        DUE.is("four at first", new ArcOrder().now(1), 6);
        DUE.is("twelve items", Due.of("n12;").now(1), 66);
        // By a ring none is moved either: these 55 are not counted twice.
        DUE.is("one chain", Due.of(CHAIN).now(1), 55);
    }

    private static void freeIsNoArcThere() {
        DUE.says("no ARC there");
        ArcOrder x = Due.of("n3;");
        DUE.is("no arcs", x.now(1), 3);
        x.puts(0, 2);
        DUE.is("one arc", x.now(1), 2);
        x.puts(0, 1);
        DUE.is("two arcs", x.now(1), 1);
        x.puts(1, 2);
        DUE.is("three arcs", x.now(1), 0);
    }

    private static void freeOfUnlikeItems() {
        DUE.says("FREE: two unlike ITEMS (the one, the other)");
        ArcOrder x = Due.of("n4;");
        int free = 0;
        for (int u = 0; u < 4; u++) {
            for (int v = 0; v < 4; v++) {
                free += x.arc(u, v, 0) == 0 && x.arc(u, v, 1) == 0 ? 1 : 0;
            }
        }
        DUE.is("pairs that arc() finds", free, 6);
        DUE.is("now(1)", x.now(1), 6);
    }

    private static void mostOfNone() {
        DUE.says("(16 times the one, and the other); NONE.");
        DUE.is("one item", Due.of("n1;").now(2), ArcOrder.NONE);
        DUE.is("two items, an arc", Due.of("n2;a0 1;").now(2), ArcOrder.NONE);
        DUE.is("an arc between any two", ItemsEdgeTest.withAllArcs().now(2), ArcOrder.NONE);
    }

    private static void mostOfSeveral() {
        DUE.says("of several the first (16 times the one, and the other)");
        DUE.is("two items", Due.of("n2;").now(2), 16);
        DUE.is("no arcs, each moves two", Due.of("n12;").now(2), 16);
        DUE.is("the lower U: (2, 0) and (3, 0) move three", Due.of("n4;a0 1;").now(2), 32);
        DUE.is("the lower V: (3, 0) and (3, 1) move three", Due.of("n4;a2 3;").now(2), 48);
    }

    private static void mostThatMovesNone() {
        DUE.says("MOST: the ARC (not there, closing no RING) by which most are MOVED");
        DUE.is("one chain, (0, 2) moves none", Due.of(CHAIN).now(2), 2);
        DUE.is("three items", Due.of("n3;a2 1;a1 0;").now(2), 32);
    }

    private static void mostOfTheHighest() {
        DUE.says("16 times the one, and the other");
        DUE.is("(11, 0)", Due.of("n12;a0 2;a2 4;a4 6;a6 8;a8 10;a1 3;a3 5;a5 7;a7 9;a9 11;").now(2), 176);
        ArcOrder x = ItemsEdgeTest.withAllArcs();
        x.cuts(10, 11);
        DUE.is("(11, 10) and (10, 11) can be put", x.unseen(0), 2);
        DUE.is("(11, 10) moves", x.now(2), 186);
        ArcOrder y = ItemsEdgeTest.withAllArcs();
        y.cuts(0, 11);
        DUE.is("(0, 11) alone", y.now(2), 11);
    }

    private static void mostIsNotThere() {
        DUE.says("MOST: the ARC (not there");
        // (2, 0) would move all three, were it not there; what is left moves two, or none.
        ArcOrder x = Due.of("n3;a0 1;");
        DUE.is("not there", x.now(2), 32);
        x.puts(2, 0);
        DUE.is("there", x.now(2), 33);
    }

    private static void mostClosesNoRing() {
        DUE.says("closing no RING) by which most are MOVED");
        // (2, 0) would close a ring of three.
        DUE.is("now(2)", Due.of("n4;a0 1;a1 2;").now(2), 48);
        DUE.is("(3, 0) there, the others move none or close one", Due.of("n4;a0 1;a1 2;a2 3;a0 3;").now(2), 2);
    }

    private static void chainOfOneAndOfTwelve() {
        DUE.says("CHAIN: the most ITEMS, one behind the other, each with an ARC to the next.");
        DUE.is("one item", Due.of("n1;").now(3), 1);
        DUE.is("no arcs", Due.of("n12;").now(3), 1);
        DUE.is("one arc", Due.of("n12;a11 0;").now(3), 2);
        DUE.is("all", Due.of(CHAIN).now(3), 12);
    }

    private static void chainIsTheMost() {
        DUE.says("CHAIN: the most ITEMS");
        // Two chains of three and of four; a way round is shorter; many arcs at one item lengthen nothing.
        DUE.is("two chains", Due.of("n7;a0 1;a1 2;a3 4;a4 5;a5 6;").now(3), 4);
        DUE.is("a way round", Due.of("n4;a0 1;a1 2;a2 3;a0 3;a0 2;").now(3), 4);
        DUE.is("a star", Due.of("n6;a0 1;a0 2;a0 3;a0 4;a0 5;").now(3), 2);
        DUE.is("against the numbers", Due.of("n5;a4 3;a3 0;a0 2;").now(3), 4);
    }

    private static void spareOfNone() {
        DUE.says("SPARE: an ARC whose ends are one ahead of the other by other ARCS.");
        DUE.is("one item", Due.of("n1;").now(4), 0);
        DUE.is("no arcs", Due.of("n12;").now(4), 0);
        DUE.is("one arc", Due.of("n12;a0 1;").now(4), 0);
        DUE.is("one chain", Due.of(CHAIN).now(4), 0);
        DUE.is("two ways, none spare", Due.of("n4;a0 1;a0 2;a1 3;a2 3;").now(4), 0);
    }

    private static void spareByOneWay() {
        DUE.says("one ahead of the other by other ARCS.");
        DUE.is("by two arcs", Due.of("n3;a0 1;a1 2;a0 2;").now(4), 1);
        DUE.is("by two ways", Due.of("n4;a0 1;a0 2;a1 3;a2 3;a0 3;").now(4), 1);
        DUE.is("against the numbers", Due.of("n3;a2 1;a1 0;a2 0;").now(4), 1);
    }

    private static void spareByALongWay() {
        DUE.says("SPARE: an ARC whose ends");
        ArcOrder x = Due.of(CHAIN);
        x.puts(0, 11);
        DUE.is("by eleven arcs", x.now(4), 1);
        x.cuts(5, 6);
        DUE.is("by none", x.now(4), 0);
    }

    private static void spareOfAll() {
        DUE.says("by other ARCS.");
        DUE.is("an arc between any two", ItemsEdgeTest.withAllArcs().now(4), 55);
        // Each is spare by an arc that is spare itself: (0, 3) by (0, 2), (2, 3).
        DUE.is("four items", Due.of("n4;a0 1;a1 2;a2 3;a0 2;a0 3;a1 3;").now(4), 3);
    }

    private static void nowWhat() {
        DUE.says("0 ARCS, 1 FREE ones, 2 MOST (NONE), 3 CHAIN, 4 SPARE ones, 5 how many may be UNDONE. BAD.");
        ArcOrder x = Due.of("n3;a0 1;a1 2;a0 2;");
        int[] due = {3, 0, ArcOrder.NONE, 3, 1, 0};
        for (int what = 0; what <= 5; what++) {
            DUE.is("now(" + what + ")", x.now(what), due[what]);
        }
        int[] never = {Integer.MIN_VALUE, -2, -1, 6, 7, 256, Integer.MAX_VALUE};
        for (int what : never) {
            DUE.is("now(" + what + ")", x.now(what), ArcOrder.BAD);
        }
    }

    private static void nowUndone() {
        DUE.says("5 how many may be UNDONE");
        ArcOrder x = Due.of("n12;");
        for (int steps = 0; steps <= 12; steps++) {
            DUE.is("now(5)", x.now(5), Math.min(steps, 10));
            x.sorts();
        }
    }

    private static void arcMoved() {
        DUE.says("Of an ARC that is not there: 0 MOVED (bits)");
        ArcOrder x = Due.of("n12;");
        DUE.is("arc(11, 0, 0)", x.arc(11, 0, 0), 2049);
        DUE.is("arc(0, 11, 0)", x.arc(0, 11, 0), 0);
        DUE.is("arc(1, 0, 0)", x.arc(1, 0, 0), 3);
    }

    private static void arcRing() {
        DUE.says("1 whether it would close a RING (1, 0)");
        ArcOrder x = Due.of("n4;a0 1;a1 2;");
        DUE.is("arc(1, 0, 1)", x.arc(1, 0, 1), 1);
        DUE.is("arc(2, 0, 1)", x.arc(2, 0, 1), 1);
        DUE.is("arc(3, 0, 1)", x.arc(3, 0, 1), 0);
        DUE.is("arc(0, 2, 1)", x.arc(0, 2, 1), 0);
        DUE.is("arc(0, 3, 1)", x.arc(0, 3, 1), 0);
        DUE.is("lap() tells nothing of it", x.lap(-1), 0);
    }

    private static void arcBeforeAndAfter() {
        DUE.says("2 BEFORE (bits; 0: U is ahead of V), 3 AFTER (bits; 0 likewise)");
        ArcOrder x = Due.of("n12;a0 11;");
        DUE.is("just U", x.arc(11, 1, 2), 2048);
        DUE.is("just V", x.arc(11, 1, 3), 2);
        DUE.is("the next one, BEFORE", x.arc(1, 0, 2), 2);
        DUE.is("the next one, AFTER", x.arc(1, 0, 3), 1);
        // By a ring both are told as they are: they hold each other's end.
        DUE.is("a ring's BEFORE", x.arc(11, 0, 2), 2049);
        DUE.is("a ring's AFTER", x.arc(11, 0, 3), 2049);
        ArcOrder all = Due.of(CHAIN);
        DUE.is("all, BEFORE", all.arc(11, 0, 2), 4095);
        DUE.is("all, AFTER", all.arc(11, 0, 3), 4095);
    }

    private static void arcAhead() {
        DUE.says("0: U is ahead of V");
        ArcOrder x = Due.of("n4;a0 2;");
        for (int what = 0; what < 4; what++) {
            DUE.is("arc(0, 1, " + what + ")", x.arc(0, 1, what), 0);
            DUE.is("arc(0, 3, " + what + ")", x.arc(0, 3, what), 0);
            DUE.is("arc(2, 3, " + what + ")", x.arc(2, 3, what), 0);
        }
    }

    private static void arcOfNoItems() {
        DUE.says("3 AFTER (bits; 0 likewise). BAD");
        ArcOrder x = Due.of("n12;");
        for (int never : NEVER) {
            for (int what = 0; what < 4; what++) {
                DUE.is("arc(" + never + ", 0, " + what + ")", x.arc(never, 0, what), ArcOrder.BAD);
                DUE.is("arc(0, " + never + ", " + what + ")", x.arc(0, never, what), ArcOrder.BAD);
            }
        }
        DUE.is("four at first", new ArcOrder().arc(0, 4, 0), ArcOrder.BAD);
        DUE.is("one item", Due.of("n1;").arc(0, 1, 0), ArcOrder.BAD);
    }

    private static void arcWhat() {
        DUE.says("`int arc(int u, int v, int what)`: Of an ARC that is not there: 0 MOVED (bits)");
        ArcOrder x = Due.of("n4;a0 1;");
        int[] never = {Integer.MIN_VALUE, -2, -1, 4, 5, 256, Integer.MAX_VALUE};
        for (int what : never) {
            DUE.is("arc(2, 3, " + what + ")", x.arc(2, 3, what), ArcOrder.BAD);
            DUE.is("arc(3, 2, " + what + ")", x.arc(3, 2, what), ArcOrder.BAD);
            DUE.is("BAD is ahead of STATE, arc(0, 1, " + what + ")", x.arc(0, 1, what), ArcOrder.BAD);
        }
        DUE.is("arc(3, 2, 3)", x.arc(3, 2, 3), 4);
    }

    private static void arcOfTheSameItem() {
        DUE.says("BAD (the same ITEM, too); STATE: it is there.");
        ArcOrder x = Due.of("n12;");
        for (int what = -1; what <= 4; what++) {
            DUE.is("arc(0, 0, " + what + ")", x.arc(0, 0, what), ArcOrder.BAD);
            DUE.is("arc(11, 11, " + what + ")", x.arc(11, 11, what), ArcOrder.BAD);
        }
    }

    private static void arcThatIsThere() {
        DUE.says("STATE: it is there.");
        ArcOrder x = Due.of("n4;a3 0;");
        for (int what = 0; what < 4; what++) {
            DUE.is("arc(3, 0, " + what + ")", x.arc(3, 0, what), ArcOrder.STATE);
        }
        DUE.is("the other way", x.arc(0, 3, 1), 1);
        x.lists(2, 1);
        DUE.is("listed", x.arc(2, 1, 1), 0);
        x.cuts(3, 0);
        DUE.is("cut", x.arc(3, 0, 1), 0);
    }
}
