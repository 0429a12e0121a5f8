/** Promises 1 to 7: a new object, the text, items, places, what is now. */
public final class StoreTest {
    private static final Due DUE = new Due("StoreTest");

    public static void main(String[] args) {
        newObject();
        type();
        clear();
        storeTellsAllAnew();
        storeForgets();
        storeFaults();
        storeRefusedChangesNothing();
        item();
        at();
        now();
        DUE.end();
    }

    private static void newObject() {
        ArcOrder x = new ArcOrder();
        DUE.is("new count(0)", x.count(0), 4);
        DUE.is("new order", Due.order(x), "0 1 2 3");
        DUE.is("new arcs", Due.arcs(x), "0 0 0 0");
        for (int what = 1; what <= 3; what++) {
            DUE.is("new count(" + what + ")", x.count(what), 0);
        }
        DUE.is("new now(0)", x.now(0), 0);
        DUE.is("new now(5)", x.now(5), 0);
        DUE.is("new lap(-1)", x.lap(-1), 0);
        DUE.is("new back(0)", x.back(0), ArcOrder.STATE);
        DUE.is("new back(1)", x.back(1), ArcOrder.STATE);
        DUE.is("new undo()", x.undo(), ArcOrder.STATE);
    }

    private static void type() {
        ArcOrder x = new ArcOrder();
        DUE.is("type(-1)", x.type(-1), ArcOrder.BAD);
        DUE.is("type(256)", x.type(256), ArcOrder.BAD);
        DUE.is("type(MIN)", x.type(Integer.MIN_VALUE), ArcOrder.BAD);
        DUE.is("type(0)", x.type(0), 1);
        DUE.is("type(255)", x.type(255), 2);
        for (int i = 3; i <= 120; i++) {
            DUE.is("type " + i, x.type(' '), i);
        }
        DUE.is("type, full", x.type(' '), ArcOrder.FULL);
        DUE.is("type(256), full", x.type(256), ArcOrder.BAD);
        DUE.is("count(3), full", x.count(3), 120);
    }

    private static void clear() {
        ArcOrder x = new ArcOrder();
        DUE.is("clear() of none", x.clear(), 0);
        Due.type(x, "zz ");
        DUE.is("clear() of 3", x.clear(), 3);
        DUE.is("count(3) behind clear()", x.count(3), 0);
        DUE.is("store() behind clear()", x.store(), 0);
    }

    private static void storeTellsAllAnew() {
        ArcOrder x = new ArcOrder();
        DUE.is("three entries", Due.stored(x, "n5;a4 0;a 1  2 ;"), 3);
        DUE.is("order told", Due.order(x), "4 1 2 3 0");
        DUE.is("arcs told", Due.arcs(x), "0 4 0 0 1");
        DUE.is("no n", Due.stored(x, "a3 0;"), 1);
        DUE.is("4 items without n", x.count(0), 4);
        DUE.is("order without n", Due.order(x), "3 1 2 0");
        DUE.is("n12", Due.stored(x, "n12;a11 10;"), 2);
        DUE.is("12 items", x.count(0), 12);
        DUE.is("order of 12", Due.order(x), "0 1 2 3 4 5 6 7 8 9 11 10");
        DUE.is("n1", Due.stored(x, " n 1 ; "), 1);
        DUE.is("1 item", x.count(0), 1);
        DUE.is("empty text", Due.stored(x, ""), 0);
        DUE.is("4 items by an empty text", x.count(0), 4);
        DUE.is("blanks", Due.stored(x, "   "), 0);
        Due.type(x, "n2;");
        DUE.is("count(3) ahead of store()", x.count(3), 3);
        x.store();
        DUE.is("count(3) behind store()", x.count(3), 0);
        StringBuilder full = new StringBuilder("n12;a0 1;");
        while (full.length() < 120) {
            full.append(' ');
        }
        DUE.is("120 letters", Due.stored(x, full.toString()), 2);
    }

    private static void storeForgets() {
        ArcOrder x = new ArcOrder();
        x.puts(0, 1);
        x.puts(1, 0);
        x.lists(2, 3);
        x.sees(1, 1);
        x.keep(0);
        x.keep(1);
        DUE.is("store of a like text", Due.stored(x, "a0 1;"), 1);
        DUE.is("list behind store()", x.count(1), 0);
        DUE.is("seen behind store()", x.count(2), 0);
        DUE.is("unseen behind store()", x.unseen(0), 10);
        DUE.is("undone behind store()", x.now(5), 0);
        DUE.is("undo behind store()", x.undo(), ArcOrder.STATE);
        DUE.is("back(0) behind store()", x.back(0), ArcOrder.STATE);
        DUE.is("back(1) behind store()", x.back(1), ArcOrder.STATE);
        // The document does not name the ring among what is gone.
        DUE.is("ring behind store()", Due.ring(x), "0 1");
    }

    private static void storeFaults() {
        Object[][] faults = {
            {"n0;", 1}, {"n13;", 1}, {"n 99;", 2}, {"n100;", 1}, {"n01;", 1}, {"n00;", 1}, {"n5", 2}, {"n5  ", 4},
            {"n", 1}, {"n;", 1}, {"na", 1}, {"nn", 1}, {"n5 6;", 3}, {"n5a", 2}, {"n5;n5;", 3}, {"a0 1;n4;", 5},
            {"a0 1; n4;", 6}, {";", 0}, {" ;", 1}, {"n4;;", 3}, {"5;", 0}, {"x", 0}, {"  x", 2}, {"n4;x", 3},
            {"N4;", 0}, {"n4x;", 2}, {"n\t4;", 1}, {"n-4;", 1}, {"a", 1}, {"a0", 2}, {"a0 ", 3}, {"a0;", 2},
            {"a0 1", 4}, {"a0 1a", 4}, {"a0 1 2;", 5}, {"a4 0;", 1}, {"a0 4;", 3}, {"a0 0;", 3}, {"a 3 3", 4},
            {"a0 1;a0 1;", 8}, {"a0 1;a1 0;", 8}, {"a0 1;a1 0", 8}, {"a0 1;a1 2;a2 0;", 13}, {"a00 1;", 1},
            {"a0 01;", 3}, {"a0 100;", 3}, {"a0 1x", 4}, {"a0x1;", 2}, {"a01;", 1}, {"n1;a0 0;", 6},
            {"n1;a1 0;", 4}, {"n2;a1 2;", 6}, {"a0 11111111111111111111;", 3}, {"a4294967296 1;", 1},
            {"a0 4294967297;", 3}, {"n12;a11 10;a10 11;", 15}, {"n12;a12 0;", 5}, {"aa", 1}, {"a n", 2},
        };
        for (Object[] fault : faults) {
            String text = (String) fault[0];
            DUE.is("store of '" + text + "'", Due.stored(new ArcOrder(), text), -10 - (Integer) fault[1]);
        }
        StringBuilder full = new StringBuilder("a0 1;a1 2");
        while (full.length() < 120) {
            full.append(' ');
        }
        DUE.is("fault at 120", Due.stored(new ArcOrder(), full.toString()), -130);
        for (int letter = 0; letter <= 255; letter++) {
            if (letter != 32) {
                ArcOrder x = new ArcOrder();
                Due.type(x, "n4;");
                x.type(letter);
                DUE.is("store of letter " + letter, x.store(), letter == 'a' ? -14 : -13);
            }
        }
    }

    private static void storeRefusedChangesNothing() {
        ArcOrder x = Due.of("n3;a2 0;");
        x.lists(0, 1);
        x.puts(2, 1);
        x.sees(0, 1);
        x.keep(1);
        Due.type(x, "n5;a0 1;a1 0;");
        DUE.is("store refused", x.store(), -21);
        DUE.is("text stays", x.count(3), 13);
        DUE.is("items stay", x.count(0), 3);
        DUE.is("list stays", x.count(1), 1);
        DUE.is("seen stays", x.count(2), 1);
        DUE.is("arcs stay", Due.arcs(x), "0 0 3");
        DUE.is("order stays", Due.order(x), "2 1 0");
        DUE.is("undone stays", x.now(5), 1);
        DUE.is("image stays", x.back(1), 2);
        DUE.is("no ring by store()", x.lap(-1), 0);
        DUE.is("store refused again", x.store(), -21);
    }

    private static void item() {
        ArcOrder x = Due.of("n6;a5 0;a0 3;a3 2;a5 2;");
        int[][] due = {
            {2, 8, 32, 1, 3, 12, 32}, {1, 0, 0, 0, 5, 0, 0}, {5, 0, 40, 3, 5, 0, 41},
            {3, 4, 1, 2, 4, 4, 33}, {4, 0, 0, 0, 5, 0, 0}, {0, 5, 0, 0, 2, 13, 0},
        };
        DUE.is("order ahead of item()", Due.order(x), "5 1 0 3 4 2");
        for (int u = 0; u < 6; u++) {
            for (int what = 0; what <= 6; what++) {
                DUE.is("item(" + u + ", " + what + ")", x.item(u, what), due[u][what]);
            }
            DUE.is("item(" + u + ", 7)", x.item(u, 7), ArcOrder.BAD);
            DUE.is("item(" + u + ", -1)", x.item(u, -1), ArcOrder.BAD);
        }
        DUE.is("item(-1, 0)", x.item(-1, 0), ArcOrder.BAD);
        DUE.is("item(6, 0)", x.item(6, 0), ArcOrder.BAD);
        DUE.is("item(MAX, 5)", x.item(Integer.MAX_VALUE, 5), ArcOrder.BAD);
    }

    private static void at() {
        ArcOrder x = Due.of("n3;a2 1;");
        DUE.is("order", Due.order(x), "0 2 1");
        DUE.is("at(-1)", x.at(-1), ArcOrder.BAD);
        DUE.is("at(3)", x.at(3), ArcOrder.BAD);
        DUE.is("at(MIN)", x.at(Integer.MIN_VALUE), ArcOrder.BAD);
    }

    private static void now() {
        ArcOrder x = Due.of("n5;a0 1;a1 2;a0 2;a2 4;a0 4;");
        int[] due = {5, 5, 48, 4, 2, 0};
        for (int what = 0; what <= 5; what++) {
            DUE.is("now(" + what + ")", x.now(what), due[what]);
        }
        DUE.is("now(-1)", x.now(-1), ArcOrder.BAD);
        DUE.is("now(6)", x.now(6), ArcOrder.BAD);
        ArcOrder one = Due.of("n1;");
        DUE.is("FREE of one item", one.now(1), 0);
        DUE.is("MOST of one item", one.now(2), ArcOrder.NONE);
        DUE.is("CHAIN of one item", one.now(3), 1);
        ArcOrder all = Due.of("n3;a2 1;a1 0;a2 0;");
        DUE.is("MOST where all is put", all.now(2), ArcOrder.NONE);
        DUE.is("SPARE where all is put", all.now(4), 1);
        DUE.is("MOST moves none", Due.of("n3;a2 1;a1 0;").now(2), 32);
    }
}
