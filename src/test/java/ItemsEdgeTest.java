/** The edges of 'Terms', ITEMS, ARCS, THE ORDER, and of promises 1, 5, 6, 26: a test for each sentence. */
public final class ItemsEdgeTest {
    private static final Due DUE = new Due("ItemsEdgeTest");
    /** Numbers that are never an item, a place or a what; 32 and 33 wrap around where they shift a bit. */
    private static final int[] NEVER = {
        Integer.MIN_VALUE, Integer.MIN_VALUE + 1, -32, -2, -1, 12, 13, 16, 31, 32, 33, 64, 256, Integer.MAX_VALUE,
    };

    public static void main(String[] args) {
        itemsAreAsManyAsTold();
        fourItemsAtFirst();
        fewestAndMostItems();
        arcsEachOnce();
        noArcToItself();
        fullStoreOfArcs();
        orderHasAnItemAtEachPlace();
        orderAtFirst();
        newObject();
        itemWhat();
        itemNumbers();
        itemOfOneItem();
        itemBitsOfTwelve();
        firstAndLastPlaces();
        atPlaces();
        countWhat();
        countOfEmptyAndFull();
        DUE.end();
    }

    private static ArcOrder items(int howMany) {
        return Due.of("n" + howMany + ";");
    }

    private static void itemsAreAsManyAsTold() {
        DUE.says("ITEMS 0 .. as many as are told less 1");
        for (int n = 1; n <= 12; n++) {
            ArcOrder x = items(n);
            DUE.is("n" + n + " count(0)", x.count(0), n);
            DUE.is("n" + n + " item(0, 0)", x.item(0, 0), 0);
            DUE.is("n" + n + " item of the last", x.item(n - 1, 0), n - 1);
            DUE.is("n" + n + " item beyond the last", x.item(n, 0), ArcOrder.BAD);
            DUE.is("n" + n + " puts from the last", x.puts(n - 1, 0), n == 1 ? ArcOrder.BAD : 2);
            DUE.is("n" + n + " puts from beyond", x.puts(n, 0), ArcOrder.BAD);
            DUE.is("n" + n + " puts to beyond", x.puts(0, n), ArcOrder.BAD);
            DUE.is("n" + n + " lists from beyond", x.lists(n, 0), ArcOrder.BAD);
            DUE.is("n" + n + " lists to beyond", x.lists(0, n), ArcOrder.BAD);
            DUE.is("n" + n + " sees the last", x.sees(n - 1, 0), 1);
            DUE.is("n" + n + " sees one beyond", x.sees(n, 0), ArcOrder.BAD);
        }
    }

    private static void fourItemsAtFirst() {
        DUE.says("12; 4 at first");
        ArcOrder x = new ArcOrder();
        DUE.is("count(0)", x.count(0), 4);
        DUE.is("item(3, 0)", x.item(3, 0), 3);
        DUE.is("item(4, 0)", x.item(4, 0), ArcOrder.BAD);
    }

    private static void fewestAndMostItems() {
        DUE.says("(1 .. 12");
        DUE.is("n0;", Due.stored(new ArcOrder(), "n0;"), -11);
        DUE.is("n1;", Due.stored(new ArcOrder(), "n1;"), 1);
        DUE.is("n12;", Due.stored(new ArcOrder(), "n12;"), 1);
        DUE.is("n13;", Due.stored(new ArcOrder(), "n13;"), -11);
    }

    private static void arcsEachOnce() {
        DUE.says("ARCS, from an ITEM to another one, each once at most");
        ArcOrder x = items(2);
        DUE.is("puts(0, 1)", x.puts(0, 1), 0);
        DUE.is("puts(0, 1) again", x.puts(0, 1), ArcOrder.STATE);
        DUE.is("lists(0, 1)", x.lists(0, 1), ArcOrder.STATE);
        DUE.is("now(0)", x.now(0), 1);
        DUE.is("cuts(0, 1)", x.cuts(0, 1), 0);
        DUE.is("puts(0, 1) behind cuts()", x.puts(0, 1), 0);
        DUE.is("now(0)", x.now(0), 1);
        DUE.is("told twice", Due.stored(new ArcOrder(), "a0 1;a0 1;"), -18);
    }

    private static void noArcToItself() {
        DUE.says("from an ITEM to another one");
        ArcOrder x = items(12);
        for (int u = 0; u < 12; u++) {
            DUE.is("puts(" + u + ", itself)", x.puts(u, u), ArcOrder.BAD);
            DUE.is("lists(" + u + ", itself)", x.lists(u, u), ArcOrder.BAD);
            DUE.is("cuts(" + u + ", itself)", x.cuts(u, u), ArcOrder.BAD);
            for (int what = 0; what < 4; what++) {
                DUE.is("arc(" + u + ", itself, " + what + ")", x.arc(u, u, what), ArcOrder.BAD);
            }
        }
        DUE.is("now(0)", x.now(0), 0);
        DUE.is("lap(-1)", x.lap(-1), 0);
    }

    /** Twelve items, and an arc between any two of them: there can be no more. */
    static ArcOrder withAllArcs() {
        ArcOrder x = items(12);
        for (int u = 0; u < 12; u++) {
            for (int v = u + 1; v < 12; v++) {
                x.puts(u, v);
            }
        }
        return x;
    }

    private static void fullStoreOfArcs() {
        DUE.says("each once at most: the one is ahead of the other");
        ArcOrder x = withAllArcs();
        DUE.is("now(0)", x.now(0), 66);
        for (int u = 0; u < 12; u++) {
            for (int v = 0; v < 12; v++) {
                int due = u == v ? ArcOrder.BAD : u < v ? ArcOrder.STATE : ArcOrder.RING;
                DUE.is("puts(" + u + ", " + v + ")", x.puts(u, v), due);
            }
        }
        DUE.is("now(0)", x.now(0), 66);
        DUE.is("FREE", x.now(1), 0);
        DUE.is("MOST", x.now(2), ArcOrder.NONE);
        DUE.is("CHAIN", x.now(3), 12);
        DUE.is("SPARE", x.now(4), 55);
        DUE.is("UNSEEN", x.unseen(0), 0);
        DUE.is("orders()", x.orders(), 1);
        DUE.is("order", Due.order(x), "0 1 2 3 4 5 6 7 8 9 10 11");
        for (int u = 0; u < 12; u++) {
            DUE.is("FIRST of " + u, x.item(u, 3), u);
            DUE.is("LAST of " + u, x.item(u, 4), u);
        }
        DUE.is("cuts(0, 11)", x.cuts(0, 11), 65);
        DUE.is("puts(0, 11)", x.puts(0, 11), 0);
    }

    private static void orderHasAnItemAtEachPlace() {
        DUE.says("THE ORDER has an ITEM at each PLACE 0 .. ;");
        for (int n = 1; n <= 12; n++) {
            ArcOrder x = items(n);
            for (int u = n - 1; u > 0; u--) {
                x.puts(u, u - 1);
            }
            StringBuilder turned = new StringBuilder();
            for (int p = 0; p < n; p++) {
                turned.append(p == 0 ? "" : " ").append(n - 1 - p);
                DUE.is("n" + n + " place of what is at " + p, x.item(x.at(p), 0), p);
            }
            DUE.is("n" + n + " order", Due.order(x), turned.toString());
            DUE.is("n" + n + " at(-1)", x.at(-1), ArcOrder.BAD);
            DUE.is("n" + n + " at(" + n + ")", x.at(n), ArcOrder.BAD);
        }
    }

    private static void orderAtFirst() {
        DUE.says("at first ITEM k is at PLACE k.");
        DUE.is("order of a new object", Due.order(new ArcOrder()), "0 1 2 3");
        ArcOrder x = Due.of("n12;a11 0;");
        DUE.is("told anew with 3", Due.stored(x, "n3;"), 1);
        DUE.is("order of 3", Due.order(x), "0 1 2");
        DUE.is("told anew with 12", Due.stored(x, "n12;"), 1);
        DUE.is("order of 12", Due.order(x), "0 1 2 3 4 5 6 7 8 9 10 11");
    }

    private static void newObject() {
        DUE.says("`ArcOrder()`: As told; no ARCS.");
        ArcOrder x = new ArcOrder();
        int[] now = {0, 6, 16, 1, 0, 0};
        int[] counts = {4, 0, 0, 0};
        for (int what = 0; what < now.length; what++) {
            DUE.is("now(" + what + ")", x.now(what), now[what]);
        }
        for (int what = 0; what < counts.length; what++) {
            DUE.is("count(" + what + ")", x.count(what), counts[what]);
        }
        for (int u = 0; u < 4; u++) {
            int[] due = {u, 0, 0, 0, 3, 0, 0};
            for (int what = 0; what < due.length; what++) {
                DUE.is("item(" + u + ", " + what + ")", x.item(u, what), due[what]);
            }
        }
        DUE.is("orders()", x.orders(), 24);
        DUE.is("number()", x.number(), 0);
        DUE.is("lap(-1)", x.lap(-1), 0);
        DUE.is("lap(0)", x.lap(0), ArcOrder.NONE);
        DUE.is("unseen(0)", x.unseen(0), 12);
        DUE.is("unseen(1)", x.unseen(1), 1);
        DUE.is("adds()", x.adds(), ArcOrder.STATE);
        DUE.is("undo()", x.undo(), ArcOrder.STATE);
        DUE.is("back(0)", x.back(0), ArcOrder.STATE);
        DUE.is("back(1)", x.back(1), ArcOrder.STATE);
        DUE.is("clear()", x.clear(), 0);
        DUE.is("forget()", x.forget(), 0);
        ArcOrder other = new ArcOrder();
        x.puts(3, 0);
        DUE.is("objects share nothing", other.now(0), 0);
        DUE.is("objects share no order", Due.order(other), "0 1 2 3");
    }

    private static void itemWhat() {
        DUE.says("Of an ITEM: 0 its PLACE, 1 to which ARCS lead from it (bits)");
        ArcOrder x = Due.of("n3;a2 0;a0 1;");
        int[] due = {1, 2, 4, 1, 1, 2, 4};
        for (int what = 0; what <= 6; what++) {
            DUE.is("item(0, " + what + ")", x.item(0, what), due[what]);
        }
        DUE.is("item(0, -1)", x.item(0, -1), ArcOrder.BAD);
        DUE.is("item(0, 7)", x.item(0, 7), ArcOrder.BAD);
        DUE.is("item(0, MIN)", x.item(0, Integer.MIN_VALUE), ArcOrder.BAD);
        DUE.is("item(0, MAX)", x.item(0, Integer.MAX_VALUE), ArcOrder.BAD);
        DUE.is("item(0, 256)", x.item(0, 256), ArcOrder.BAD);
    }

    private static void itemNumbers() {
        DUE.says("6 all that is ahead of it so (bits). BAD.");
        ArcOrder x = items(12);
        for (int what = 0; what <= 6; what++) {
            DUE.is("item(11, " + what + ")", x.item(11, what) == ArcOrder.BAD ? 1 : 0, 0);
            for (int u : NEVER) {
                DUE.is("item(" + u + ", " + what + ")", x.item(u, what), ArcOrder.BAD);
            }
        }
        DUE.is("item(12, 7)", x.item(12, 7), ArcOrder.BAD);
    }

    private static void itemOfOneItem() {
        DUE.says("5 all that is behind it by ARCS, one behind the other (bits)");
        ArcOrder one = items(1);
        for (int what = 0; what <= 6; what++) {
            DUE.is("one item, item(0, " + what + ")", one.item(0, what), 0);
            DUE.is("one item, item(1, " + what + ")", one.item(1, what), ArcOrder.BAD);
        }
        // 0 leads to 1 by one arc, to 2 by two; 3 hangs together with none.
        ArcOrder x = Due.of("n4;a0 1;a1 2;");
        DUE.is("behind 0", x.item(0, 5), 6);
        DUE.is("behind 2", x.item(2, 5), 0);
        DUE.is("behind 3", x.item(3, 5), 0);
        DUE.is("ahead of 2", x.item(2, 6), 3);
        DUE.is("ahead of 0", x.item(0, 6), 0);
        DUE.is("ahead of 3", x.item(3, 6), 0);
    }

    private static void itemBitsOfTwelve() {
        DUE.says("2 from which to it (bits)");
        ArcOrder x = withAllArcs();
        for (int u = 0; u < 12; u++) {
            int ahead = (1 << u) - 1;
            int behind = 4095 - (1 << u) - ahead;
            DUE.is("item(" + u + ", 1)", x.item(u, 1), behind);
            DUE.is("item(" + u + ", 2)", x.item(u, 2), ahead);
            DUE.is("item(" + u + ", 5)", x.item(u, 5), behind);
            DUE.is("item(" + u + ", 6)", x.item(u, 6), ahead);
        }
    }

    private static void firstAndLastPlaces() {
        DUE.says("FIRST of an ITEM: the lowest PLACE that it can have in any order by ARCS; LAST: the highest.");
        ArcOrder none = items(12);
        ArcOrder chain = Due.of("n12;a11 10;a10 9;a9 8;a8 7;a7 6;a6 5;a5 4;a4 3;a3 2;a2 1;a1 0;");
        for (int u = 0; u < 12; u++) {
            DUE.is("no arcs, FIRST of " + u, none.item(u, 3), 0);
            DUE.is("no arcs, LAST of " + u, none.item(u, 4), 11);
            DUE.is("one chain, FIRST of " + u, chain.item(u, 3), 11 - u);
            DUE.is("one chain, LAST of " + u, chain.item(u, 4), 11 - u);
        }
        // Two ways from 0 to 3: what lies on both is counted once.
        ArcOrder x = Due.of("n5;a0 1;a0 2;a1 3;a2 3;");
        int[][] due = {{0, 1}, {1, 3}, {1, 3}, {3, 4}, {0, 4}};
        for (int u = 0; u < 5; u++) {
            DUE.is("FIRST of " + u, x.item(u, 3), due[u][0]);
            DUE.is("LAST of " + u, x.item(u, 4), due[u][1]);
        }
    }

    private static void atPlaces() {
        DUE.says("The ITEM at a PLACE. BAD.");
        ArcOrder one = items(1);
        DUE.is("one item, at(0)", one.at(0), 0);
        DUE.is("one item, at(1)", one.at(1), ArcOrder.BAD);
        DUE.is("one item, at(-1)", one.at(-1), ArcOrder.BAD);
        ArcOrder x = Due.of("n12;a11 0;");
        DUE.is("at(0)", x.at(0), 11);
        DUE.is("at(11)", x.at(11), 0);
        for (int place : NEVER) {
            DUE.is("at(" + place + ")", x.at(place), ArcOrder.BAD);
        }
        DUE.is("four at first, at(3)", new ArcOrder().at(3), 3);
        DUE.is("four at first, at(4)", new ArcOrder().at(4), ArcOrder.BAD);
    }

    private static void countWhat() {
        DUE.says("0 ITEMS, 1 how long THE LIST is, 2 SEEN, 3 letters of THE TEXT. BAD.");
        ArcOrder x = new ArcOrder();
        int[] due = {4, 0, 0, 0};
        for (int what = 0; what < 4; what++) {
            DUE.is("count(" + what + ")", x.count(what), due[what]);
        }
        int[] never = {Integer.MIN_VALUE, -1, 4, 5, 256, Integer.MAX_VALUE};
        for (int what : never) {
            DUE.is("count(" + what + ")", x.count(what), ArcOrder.BAD);
        }
    }

    private static void countOfEmptyAndFull() {
        DUE.says("1 how long THE LIST is, 2 SEEN, 3 letters of THE TEXT");
        ArcOrder x = items(12);
        for (int i = 0; i <= 10; i++) {
            DUE.is("list, count(1)", x.count(1), Math.min(i, 8));
            DUE.is("seen, count(2)", x.count(2), Math.min(i, 6));
            x.lists(i, 11);
            x.sees(i, 0);
        }
        for (int i = 0; i <= 122; i++) {
            DUE.is("text, count(3)", x.count(3), Math.min(i, 120));
            x.type(' ');
        }
        x.adds();
        DUE.is("list behind adds()", x.count(1), 0);
        x.forget();
        DUE.is("seen behind forget()", x.count(2), 0);
        x.clear();
        DUE.is("text behind clear()", x.count(3), 0);
        DUE.is("items stay", x.count(0), 12);
    }
}
