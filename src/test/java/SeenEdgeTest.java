/** The edges of 'Terms', SEEN, UNSEEN, LOOK, and of promises 20 to 23: a test for each sentence. */
public final class SeenEdgeTest {
    private static final Due DUE = new Due("SeenEdgeTest");
    /** Numbers that are never an item; 32 and 33 wrap around where they shift a bit. */
    private static final int[] NEVER = {Integer.MIN_VALUE, -32, -1, 12, 13, 31, 32, 33, 256, Integer.MAX_VALUE};

    public static void main(String[] args) {
        seenSix();
        seesCounts();
        seesOfNoItems();
        seesOfWrongMoved();
        seesFull();
        seenByMovedOrNot();
        seenStays();
        forget();
        unknownArcIsNotThere();
        unknownArcClosesNoRing();
        unseenOfAllAndOfNone();
        unseenTheFirst();
        unseenAllThatWasSeen();
        unseenWhat();
        unseenChangesNothing();
        lookOfNone();
        lookOfOne();
        lookOfTwo();
        lookTheGreaterPartIsSmallest();
        lookOfSeveralTheLowest();
        lookWhereNoneParts();
        lookAtTwelve();
        DUE.end();
    }

    private static void seenSix() {
        DUE.says("SEEN (6 at most)");
        ArcOrder x = Due.of("n12;");
        for (int i = 1; i <= 6; i++) {
            DUE.is("sees " + i, x.sees(i, 0), i);
        }
        DUE.is("the 7th", x.sees(7, 0), ArcOrder.FULL);
        DUE.is("count(2)", x.count(2), 6);
    }

    private static void seesCounts() {
        DUE.says("SEEN: how much there is.");
        ArcOrder x = Due.of("n12;");
        DUE.is("sees(0, 0)", x.sees(0, 0), 1);
        DUE.is("sees(11, 1)", x.sees(11, 1), 2);
        DUE.is("the same again", x.sees(11, 1), 3);
        DUE.is("against it", x.sees(11, 0), 4);
        DUE.is("count(2)", x.count(2), 4);
    }

    private static void seesOfNoItems() {
        DUE.says("`int sees(int u, int moved)`: SEEN: how much there is. BAD");
        ArcOrder x = Due.of("n12;");
        for (int u : NEVER) {
            DUE.is("sees(" + u + ", 0)", x.sees(u, 0), ArcOrder.BAD);
            DUE.is("sees(" + u + ", 1)", x.sees(u, 1), ArcOrder.BAD);
        }
        DUE.is("count(2)", x.count(2), 0);
        DUE.is("unseen(0)", x.unseen(0), 132);
        DUE.is("four at first, sees(3, 0)", new ArcOrder().sees(3, 0), 1);
        DUE.is("four at first, sees(4, 0)", new ArcOrder().sees(4, 0), ArcOrder.BAD);
    }

    private static void seesOfWrongMoved() {
        DUE.says("an ITEM was MOVED (1), or was not (0).");
        ArcOrder x = Due.of("n3;");
        int[] never = {Integer.MIN_VALUE, -2, -1, 2, 3, 256, Integer.MAX_VALUE};
        for (int moved : never) {
            DUE.is("sees(0, " + moved + ")", x.sees(0, moved), ArcOrder.BAD);
        }
        DUE.is("count(2)", x.count(2), 0);
        DUE.is("unseen(0)", x.unseen(0), 6);
    }

    private static void seesFull() {
        DUE.says("SEEN: how much there is. BAD; FULL.");
        ArcOrder x = Due.of("n12;");
        for (int i = 0; i < 6; i++) {
            x.sees(0, 1);
        }
        DUE.is("unseen(0)", x.unseen(0), 11);
        DUE.is("FULL", x.sees(1, 1), ArcOrder.FULL);
        DUE.is("FULL, what was seen already", x.sees(0, 1), ArcOrder.FULL);
        DUE.is("BAD is ahead of FULL, an item", x.sees(12, 1), ArcOrder.BAD);
        DUE.is("BAD is ahead of FULL, moved", x.sees(0, 2), ArcOrder.BAD);
        DUE.is("what was FULL is not seen", x.unseen(0), 11);
        DUE.is("forget()", x.forget(), 6);
        DUE.is("there is room again", x.sees(1, 1), 1);
    }

    private static void seenByMovedOrNot() {
        DUE.says("one unknown ARC (not there, closing no RING) being PUT, an ITEM was MOVED (1), or was not (0).");
        ArcOrder x = Due.of("n3;");
        // (1, 0) moves 0 1; (2, 0) moves 0 2; (2, 1) moves 1 2; the other three move none.
        x.sees(0, 1);
        DUE.is("0 was moved", x.unseen(0), 2);
        DUE.is("0 was moved, the first", x.unseen(1), 16);
        x.forget();
        x.sees(0, 0);
        DUE.is("0 was not", x.unseen(0), 4);
        DUE.is("0 was not, the first", x.unseen(1), 1);
    }

    private static void seenStays() {
        DUE.says("UNSEEN: ARCS by which all that was SEEN is so");
        ArcOrder x = Due.of("n3;");
        x.sees(0, 1);
        x.puts(2, 0);
        DUE.is("count(2) behind puts()", x.count(2), 1);
        // 2 1 0 now, 2 ahead of 0: (0, 1) moves 0 1; (1, 2) moves 1 2; (2, 1), (1, 0) move none.
        DUE.is("as things are now", x.unseen(0), 1);
        DUE.is("as things are now, the first", x.unseen(1), 1);
        x.undo();
        DUE.is("count(2) behind undo()", x.count(2), 1);
        DUE.is("behind undo()", x.unseen(0), 2);
    }

    private static void forget() {
        DUE.says("Nothing is SEEN: how much was.");
        ArcOrder x = Due.of("n12;");
        DUE.is("of none", x.forget(), 0);
        x.sees(0, 1);
        DUE.is("of one", x.forget(), 1);
        DUE.is("again", x.forget(), 0);
        for (int i = 0; i < 8; i++) {
            x.sees(0, i % 2);
        }
        DUE.is("unseen(0)", x.unseen(0), 0);
        DUE.is("of a full one", x.forget(), 6);
        DUE.is("count(2)", x.count(2), 0);
        DUE.is("nothing is seen", x.unseen(0), 132);
    }

    private static void unknownArcIsNotThere() {
        DUE.says("one unknown ARC (not there");
        ArcOrder x = Due.of("n2;");
        DUE.is("both ways", x.unseen(0), 2);
        x.puts(0, 1);
        DUE.is("one is there, the other closes a ring", x.unseen(0), 0);
        ArcOrder y = Due.of("n3;a0 1;");
        DUE.is("of three, the first", y.unseen(1), 2);
        DUE.is("of three", y.unseen(0), 4);
    }

    private static void unknownArcClosesNoRing() {
        DUE.says("closing no RING) being PUT");
        ArcOrder x = Due.of("n3;a0 1;a1 2;");
        // (0, 2) is left; (1, 0), (2, 1), (2, 0) would close rings, by which none would be moved.
        x.sees(0, 0);
        DUE.is("unseen(0)", x.unseen(0), 1);
        DUE.is("unseen(1)", x.unseen(1), 2);
    }

    private static void unseenOfAllAndOfNone() {
        DUE.says("how many; the first (as MOST); NONE.");
        DUE.is("twelve items", Due.of("n12;").unseen(0), 132);
        DUE.is("twelve items, the first", Due.of("n12;").unseen(1), 1);
        DUE.is("one item", Due.of("n1;").unseen(0), 0);
        DUE.is("one item, the first", Due.of("n1;").unseen(1), ArcOrder.NONE);
        DUE.is("an arc between any two", ItemsEdgeTest.withAllArcs().unseen(0), 0);
        DUE.is("an arc between any two, the first", ItemsEdgeTest.withAllArcs().unseen(1), ArcOrder.NONE);
        ArcOrder x = Due.of("n12;");
        x.sees(5, 1);
        x.sees(5, 0);
        DUE.is("moved and not", x.unseen(0), 0);
        DUE.is("moved and not, the first", x.unseen(1), ArcOrder.NONE);
    }

    private static void unseenTheFirst() {
        DUE.says("the first (as MOST)");
        ArcOrder x = Due.of("n12;");
        x.sees(11, 1);
        x.sees(10, 1);
        DUE.is("(11, 10) alone", x.unseen(0), 1);
        DUE.is("the highest", x.unseen(1), 186);
        x.forget();
        x.sees(11, 1);
        DUE.is("(11, 0) is the first of eleven", x.unseen(1), 176);
        DUE.is("eleven", x.unseen(0), 11);
        // The first is by its numbers, not by how many it moves.
        ArcOrder y = Due.of("n4;a0 1;");
        y.sees(1, 1);
        DUE.is("(2, 0) moves three, (2, 1) two", y.unseen(1), 32);
    }

    private static void unseenAllThatWasSeen() {
        DUE.says("ARCS by which all that was SEEN is so");
        ArcOrder x = Due.of("n12;");
        int[] due = {11, 1, 1, 1, 1, 1};
        int[] seen = {0, 6, 1, 2, 3, 4};
        for (int i = 0; i < 6; i++) {
            x.sees(seen[i], i < 2 ? 1 : 0);
            DUE.is("seen " + (i + 1), x.unseen(0), due[i]);
        }
        DUE.is("(6, 0)", x.unseen(1), 96);
        // The sixth counts as the first does.
        ArcOrder y = Due.of("n12;");
        for (int i = 0; i < 5; i++) {
            y.sees(11, 1);
        }
        y.sees(0, 1);
        DUE.is("the sixth", y.unseen(0), 1);
    }

    private static void unseenWhat() {
        DUE.says("UNSEEN: how many (what = 0), the first (1; NONE). BAD.");
        ArcOrder x = new ArcOrder();
        DUE.is("unseen(0)", x.unseen(0), 12);
        DUE.is("unseen(1)", x.unseen(1), 1);
        int[] never = {Integer.MIN_VALUE, -2, -1, 2, 3, 256, Integer.MAX_VALUE};
        for (int what : never) {
            DUE.is("unseen(" + what + ")", x.unseen(what), ArcOrder.BAD);
        }
    }

    private static void unseenChangesNothing() {
        DUE.says("nothing is changed.)");
        ArcOrder x = Due.of("n4;a3 0;");
        x.sees(1, 1);
        String ahead = Probe.light(x);
        int first = x.unseen(1);
        x.unseen(0);
        x.look();
        x.unseen(2);
        DUE.is("behind these", Probe.light(x), ahead);
        DUE.is("the first again", x.unseen(1), first);
    }

    private static void lookOfNone() {
        DUE.says("LOOK; NONE.");
        DUE.is("one item", Due.of("n1;").look(), ArcOrder.NONE);
        DUE.is("two items, an arc", Due.of("n2;a1 0;").look(), ArcOrder.NONE);
        DUE.is("an arc between any two", ItemsEdgeTest.withAllArcs().look(), ArcOrder.NONE);
        ArcOrder x = Due.of("n12;");
        x.sees(0, 1);
        x.sees(0, 0);
        DUE.is("moved and not", x.look(), ArcOrder.NONE);
    }

    private static void lookOfOne() {
        DUE.says("NONE (one can be at most).");
        ArcOrder x = Due.of("n12;");
        x.sees(11, 1);
        x.sees(10, 1);
        DUE.is("unseen(0)", x.unseen(0), 1);
        DUE.is("look()", x.look(), ArcOrder.NONE);
        DUE.is("three items, one is left", Due.of("n3;a0 1;a1 2;").look(), ArcOrder.NONE);
    }

    private static void lookOfTwo() {
        DUE.says("(one can be at most)");
        // (1, 2) moves none, (2, 1) moves 1 2.
        ArcOrder x = Due.of("n3;a0 1;a0 2;");
        DUE.is("unseen(0)", x.unseen(0), 2);
        DUE.is("look()", x.look(), 1);
        DUE.is("two items, both ways", Due.of("n2;").look(), 0);
    }

    private static void lookTheGreaterPartIsSmallest() {
        DUE.says("LOOK: the ITEM by which, MOVED or not, the greater part of these is smallest");
        // Of 8 arcs, 4 move 1 and 4 move 2, but only 2 move 0 and 2 move 3.
        ArcOrder x = Due.of("n4;a0 1;a2 3;");
        DUE.is("unseen(0)", x.unseen(0), 8);
        DUE.is("look()", x.look(), 1);
        x.sees(1, 1);
        // Of these 4, all move 1 and 2; 2 move 0.
        DUE.is("unseen(0), 1 was moved", x.unseen(0), 4);
        DUE.is("look(), 1 was moved", x.look(), 0);
        // Of the 6 arcs that move 3, three move 4 too, and two each move 0, 1, 2.
        ArcOrder y = Due.of("n5;a3 4;");
        y.sees(3, 1);
        DUE.is("unseen(0), 3 was moved", y.unseen(0), 6);
        DUE.is("look(), 3 was moved", y.look(), 4);
    }

    private static void lookOfSeveralTheLowest() {
        DUE.says("of several the lowest");
        DUE.is("four at first", new ArcOrder().look(), 0);
        DUE.is("twelve items", Due.of("n12;").look(), 0);
        // 2 and 3 are moved by the arcs between them alone; 0 and 1 hang ahead of all.
        DUE.is("the lowest of those that part best", Due.of("n4;a0 1;a1 2;a1 3;a0 2;a0 3;").look(), 2);
    }

    private static void lookWhereNoneParts() {
        DUE.says("the greater part of these is smallest, of several the lowest");
        DUE.is("none is moved", Due.of("n4;a0 1;a1 2;a2 3;").look(), 0);
        ArcOrder x = Due.of("n4;a3 2;a2 1;a1 0;");
        DUE.is("none is moved, against the numbers", x.look(), 0);
        DUE.is("unseen(0)", x.unseen(0), 3);
    }

    private static void lookAtTwelve() {
        DUE.says("`int look()`: LOOK; NONE.");
        ArcOrder x = Due.of("n12;");
        x.sees(11, 1);
        // 11 arcs move 11, each with another one: any of those parts 1 from 10, 11 parts none.
        DUE.is("11 was moved", x.look(), 0);
        x.sees(0, 0);
        DUE.is("0 was not", x.look(), 1);
        x.forget();
        for (int u = 0; u < 6; u++) {
            x.sees(u, 0);
        }
        DUE.is("0 .. 5 were not", x.look(), 6);
    }
}
