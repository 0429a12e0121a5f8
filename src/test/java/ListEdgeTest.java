/** The edges of 'Terms', THE LIST, ADDED, and of promises 9, 10: a test for each sentence. */
public final class ListEdgeTest {
    private static final Due DUE = new Due("ListEdgeTest");
    /** Numbers that are never an item; 32 and 33 wrap around where they shift a bit. */
    private static final int[] NEVER = {Integer.MIN_VALUE, -32, -1, 12, 13, 31, 32, 33, 256, Integer.MAX_VALUE};

    public static void main(String[] args) {
        listOfEight();
        putAsTheyWereListed();
        ringOfTheFirstListed();
        ringOfTheEighthListed();
        ringByThosePutAhead();
        listIsEmptyInBothCases();
        listsCounts();
        listsOfNoItems();
        listsOfTheSameItem();
        listsThatIsThere();
        listsThatIsListed();
        listsFull();
        addsCountsAgainstAheadOfAll();
        addsOfNone();
        addsOfOneThatIsThere();
        addsOfTheFirstRing();
        addsIsOneStep();
        DUE.end();
    }

    /** Lists (11, 0) .. (11, howMany - 1). */
    private static ArcOrder listed(int howMany) {
        ArcOrder x = Due.of("n12;");
        for (int v = 0; v < howMany; v++) {
            x.lists(11, v);
        }
        return x;
    }

    private static void listOfEight() {
        DUE.says("ADDED: ARCS of THE LIST (8 at most) are PUT, one behind the other, as they were listed");
        ArcOrder one = listed(1);
        DUE.is("adds() of one", one.adds(), 2);
        DUE.is("order by one", Due.order(one), "11 1 2 3 4 5 6 7 8 9 10 0");
        ArcOrder eight = listed(7);
        DUE.is("the 8th", eight.lists(11, 7), 8);
        DUE.is("the 9th", eight.lists(11, 8), ArcOrder.FULL);
        DUE.is("adds() of 8", eight.adds(), 2);
        DUE.is("now(0)", eight.now(0), 8);
        DUE.is("item(11, 1)", eight.item(11, 1), 255);
        DUE.is("order by 8", Due.order(eight), "11 1 2 3 4 5 6 7 8 9 10 0");
    }

    private static void putAsTheyWereListed() {
        DUE.says("one behind the other, as they were listed");
        ArcOrder x = Due.of("n3;");
        x.lists(1, 0);
        x.lists(2, 0);
        DUE.is("adds()", x.adds(), 3);
        DUE.is("order", Due.order(x), "1 2 0");
        ArcOrder y = Due.of("n3;");
        y.lists(2, 0);
        y.lists(1, 0);
        DUE.is("adds() the other way", y.adds(), 2);
        DUE.is("order", Due.order(y), "2 1 0");
    }

    private static void ringOfTheFirstListed() {
        DUE.says("if one would close a RING (by those PUT ahead of it, too), nothing is another one.");
        ArcOrder x = Due.of("n4;a0 3;");
        x.lists(3, 0);
        x.lists(2, 1);
        DUE.is("adds()", x.adds(), ArcOrder.RING);
        DUE.is("arcs", Due.arcs(x), "8 0 0 0");
        DUE.is("order", Due.order(x), "0 1 2 3");
        DUE.is("now(0)", x.now(0), 1);
        DUE.is("now(5)", x.now(5), 0);
        DUE.is("orders()", x.orders(), 12);
    }

    private static void ringOfTheEighthListed() {
        DUE.says("nothing is another one");
        ArcOrder x = listed(7);
        x.lists(0, 11);
        DUE.is("adds()", x.adds(), ArcOrder.RING);
        DUE.is("now(0)", x.now(0), 0);
        DUE.is("now(5)", x.now(5), 0);
        for (int u = 0; u < 12; u++) {
            DUE.is("from " + u, x.item(u, 1), 0);
            DUE.is("to " + u, x.item(u, 2), 0);
            DUE.is("place of " + u, x.item(u, 0), u);
        }
        DUE.is("ring", Due.ring(x), "11 0");
    }

    private static void ringByThosePutAhead() {
        DUE.says("(by those PUT ahead of it, too)");
        ArcOrder two = Due.of("n2;");
        two.lists(0, 1);
        two.lists(1, 0);
        DUE.is("both ways", two.adds(), ArcOrder.RING);
        DUE.is("ring", Due.ring(two), "0 1");
        ArcOrder x = Due.of("n4;a1 2;");
        x.lists(0, 1);
        x.lists(2, 3);
        x.lists(3, 0);
        DUE.is("by an arc that is there and two that are listed", x.adds(), ArcOrder.RING);
        DUE.is("ring", Due.ring(x), "0 1 2 3");
        DUE.is("arcs", Due.arcs(x), "0 4 0 0");
        // Those behind it do not count: the ring is told by arcs that were put ahead.
        ArcOrder y = Due.of("n4;a0 1;a1 2;");
        y.lists(2, 0);
        y.lists(0, 2);
        DUE.is("ahead alone", y.adds(), ArcOrder.RING);
        DUE.is("ring", Due.ring(y), "0 1 2");
    }

    private static void listIsEmptyInBothCases() {
        DUE.says("THE LIST is empty then, in both cases.");
        ArcOrder x = listed(8);
        x.adds();
        DUE.is("count(1)", x.count(1), 0);
        DUE.is("adds() again", x.adds(), ArcOrder.STATE);
        DUE.is("lists() anew", x.lists(0, 1), 1);
        ArcOrder y = listed(7);
        y.lists(0, 11);
        y.adds();
        DUE.is("by a ring, count(1)", y.count(1), 0);
        DUE.is("by a ring, adds() again", y.adds(), ArcOrder.STATE);
        DUE.is("by a ring, lists() anew", y.lists(0, 11), 1);
        DUE.is("by a ring, adds() of what was the ring's", y.adds(), 0);
    }

    private static void listsCounts() {
        DUE.says("Listed behind THE LIST: how many there are.");
        ArcOrder x = Due.of("n12;");
        for (int v = 0; v < 8; v++) {
            DUE.is("lists(11, " + v + ")", x.lists(11, v), v + 1);
        }
        DUE.is("nothing is put", x.now(0), 0);
        DUE.is("nothing can be undone", x.now(5), 0);
        ArcOrder ring = Due.of("n2;a0 1;");
        DUE.is("one that closes a ring", ring.lists(1, 0), 1);
        DUE.is("is not refused yet", ring.lap(-1), 0);
    }

    private static void listsOfNoItems() {
        DUE.says("`int lists(int u, int v)`: Listed behind THE LIST: how many there are. BAD");
        ArcOrder x = Due.of("n12;");
        for (int never : NEVER) {
            DUE.is("lists(" + never + ", 0)", x.lists(never, 0), ArcOrder.BAD);
            DUE.is("lists(0, " + never + ")", x.lists(0, never), ArcOrder.BAD);
        }
        DUE.is("count(1)", x.count(1), 0);
        DUE.is("lists(11, 0)", x.lists(11, 0), 1);
        DUE.is("lists(0, 11)", x.lists(0, 11), 2);
    }

    private static void listsOfTheSameItem() {
        DUE.says("BAD (the same ITEM, too); STATE: it is there, or listed; FULL.");
        ArcOrder x = Due.of("n12;");
        DUE.is("lists(0, 0)", x.lists(0, 0), ArcOrder.BAD);
        DUE.is("lists(11, 11)", x.lists(11, 11), ArcOrder.BAD);
        DUE.is("count(1)", x.count(1), 0);
    }

    private static void listsThatIsThere() {
        DUE.says("STATE: it is there");
        ArcOrder x = Due.of("n3;a0 1;");
        DUE.is("told", x.lists(0, 1), ArcOrder.STATE);
        x.puts(1, 2);
        DUE.is("put", x.lists(1, 2), ArcOrder.STATE);
        DUE.is("by two arcs", x.lists(0, 2), 1);
        x.undo();
        DUE.is("undone", x.lists(1, 2), 2);
        x.cuts(0, 1);
        DUE.is("cut", x.lists(0, 1), 3);
    }

    private static void listsThatIsListed() {
        DUE.says("or listed; FULL.");
        ArcOrder x = listed(8);
        for (int v = 0; v < 8; v++) {
            DUE.is("lists(11, " + v + ") again", x.lists(11, v), ArcOrder.STATE);
        }
        x.adds();
        x.undo();
        DUE.is("listed no more", x.lists(11, 0), 1);
        DUE.is("the other way", x.lists(0, 11), 2);
        DUE.is("both are listed", x.lists(0, 11), ArcOrder.STATE);
    }

    private static void listsFull() {
        DUE.says("STATE: it is there, or listed; FULL.");
        ArcOrder x = Due.of("n12;a0 1;");
        for (int v = 0; v < 8; v++) {
            x.lists(11, v);
        }
        DUE.is("FULL", x.lists(11, 8), ArcOrder.FULL);
        DUE.is("FULL, another", x.lists(0, 2), ArcOrder.FULL);
        DUE.is("BAD is ahead of FULL", x.lists(11, 12), ArcOrder.BAD);
        DUE.is("BAD is ahead of FULL, the same", x.lists(8, 8), ArcOrder.BAD);
        DUE.is("STATE is ahead of FULL, there", x.lists(0, 1), ArcOrder.STATE);
        DUE.is("STATE is ahead of FULL, listed", x.lists(11, 7), ArcOrder.STATE);
        DUE.is("count(1)", x.count(1), 8);
        DUE.is("adds()", x.adds(), 3);
        DUE.is("what was FULL is not put", x.arc(11, 8, 1), 0);
        DUE.is("there is room again", x.lists(11, 8), 1);
    }

    private static void addsCountsAgainstAheadOfAll() {
        DUE.says("ADDED: how many ITEMS have another PLACE than ahead of all.");
        ArcOrder none = Due.of("n12;");
        for (int v = 1; v <= 8; v++) {
            none.lists(0, v);
        }
        DUE.is("none", none.adds(), 0);
        // By the first arc 1 moves, by the last one it comes back to its place.
        ArcOrder back = Due.of("n4;");
        back.lists(1, 0);
        back.lists(0, 2);
        back.lists(3, 1);
        DUE.is("one that comes back", back.adds(), 3);
        DUE.is("order", Due.order(back), "3 1 0 2");
        ArcOrder all = Due.of("n12;a0 2;a2 4;a4 6;a6 8;a8 10;a1 3;a3 5;a5 7;a7 9;a9 11;");
        all.lists(11, 0);
        DUE.is("all", all.adds(), 12);
    }

    private static void addsOfNone() {
        DUE.says("STATE: THE LIST is empty");
        ArcOrder x = new ArcOrder();
        DUE.is("a new object", x.adds(), ArcOrder.STATE);
        x.lists(0, 0);
        DUE.is("what was refused is not listed", x.adds(), ArcOrder.STATE);
        DUE.is("now(5)", x.now(5), 0);
    }

    private static void addsOfOneThatIsThere() {
        DUE.says("one of it is there by now; RING (of the first that would close one).");
        for (int which = 0; which < 8; which++) {
            ArcOrder x = listed(8);
            x.puts(11, which);
            String order = Due.order(x);
            DUE.is("one of 8, adds()", x.adds(), ArcOrder.STATE);
            DUE.is("one of 8, THE LIST stays", x.count(1), 8);
            DUE.is("one of 8, order", Due.order(x), order);
            DUE.is("one of 8, now(0)", x.now(0), 1);
            DUE.is("one of 8, now(5)", x.now(5), 1);
            x.undo();
            DUE.is("there no more, adds()", x.adds(), 2);
            DUE.is("there no more, now(0)", x.now(0), 8);
        }
        // STATE is ahead of RING: the first listed would close one, the second is there.
        ArcOrder x = Due.of("n4;a0 1;");
        x.lists(1, 0);
        x.lists(2, 3);
        x.puts(2, 3);
        DUE.is("STATE is ahead of RING", x.adds(), ArcOrder.STATE);
        DUE.is("no ring is told", x.lap(-1), 0);
        DUE.is("THE LIST stays", x.count(1), 2);
        x.cuts(2, 3);
        DUE.is("then it is a RING", x.adds(), ArcOrder.RING);
    }

    private static void addsOfTheFirstRing() {
        DUE.says("RING (of the first that would close one).");
        ArcOrder x = Due.of("n6;a0 1;a2 3;a3 4;");
        x.lists(5, 0);
        x.lists(4, 2);
        x.lists(1, 0);
        DUE.is("adds()", x.adds(), ArcOrder.RING);
        DUE.is("ring", Due.ring(x), "2 3 4");
    }

    private static void addsIsOneStep() {
        DUE.says("UNDONE: the latest puts(), adds()");
        ArcOrder x = listed(8);
        x.adds();
        DUE.is("now(5)", x.now(5), 1);
        DUE.is("undo()", x.undo(), 0);
        DUE.is("now(0)", x.now(0), 0);
        DUE.is("order", Due.order(x), "0 1 2 3 4 5 6 7 8 9 10 11");
        DUE.is("THE LIST stays empty", x.count(1), 0);
    }
}
