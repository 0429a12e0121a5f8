/** Promises 15 to 26: arcs, orders, days, which arc it was, images, counts. */
public final class AskTest {
    private static final Due DUE = new Due("AskTest");

    public static void main(String[] args) {
        arc();
        orders();
        number();
        kth();
        days();
        sees();
        forget();
        unseen();
        look();
        images();
        imagesKeepNothingElse();
        count();
        DUE.end();
    }

    private static void arc() {
        ArcOrder x = Due.of("n6;a0 2;a2 4;a1 5;a3 5;");
        int[][] due = {
            // u, v, MOVED, RING, BEFORE, AFTER
            {5, 0, 63, 0, 42, 21}, {4, 0, 0, 1, 21, 21}, {4, 1, 22, 0, 20, 2}, {3, 2, 12, 0, 8, 4},
            {5, 4, 48, 0, 32, 16}, {0, 5, 0, 0, 0, 0}, {0, 4, 0, 0, 0, 0}, {2, 0, 0, 1, 5, 5}, {4, 3, 24, 0, 16, 8},
        };
        for (int[] row : due) {
            for (int what = 0; what < 4; what++) {
                DUE.is("arc(" + row[0] + ", " + row[1] + ", " + what + ")", x.arc(row[0], row[1], what), row[2 + what]);
            }
        }
        DUE.is("arc(0, 0, 0)", x.arc(0, 0, 0), ArcOrder.BAD);
        DUE.is("arc(-1, 0, 0)", x.arc(-1, 0, 0), ArcOrder.BAD);
        DUE.is("arc(0, 6, 0)", x.arc(0, 6, 0), ArcOrder.BAD);
        DUE.is("arc(0, 1, -1)", x.arc(0, 1, -1), ArcOrder.BAD);
        DUE.is("arc(0, 1, 4)", x.arc(0, 1, 4), ArcOrder.BAD);
        DUE.is("arc(0, 2, 4)", x.arc(0, 2, 4), ArcOrder.BAD);
        DUE.is("arc(0, 2, 0)", x.arc(0, 2, 0), ArcOrder.STATE);
        DUE.is("arc(0, 2, 3)", x.arc(0, 2, 3), ArcOrder.STATE);
        DUE.is("no ring is told", x.lap(-1), 0);
        DUE.is("nothing is changed", Due.order(x), "0 1 2 3 4 5");
    }

    private static void orders() {
        DUE.is("orders of 1", Due.of("n1;").orders(), 1);
        DUE.is("orders of 4", new ArcOrder().orders(), 24);
        DUE.is("orders of 12", Due.of("n12;").orders(), 479001600);
        DUE.is("orders of two chains", Due.of("n6;a0 1;a1 2;a3 4;a4 5;").orders(), 20);
        ArcOrder x = Due.of("n3;");
        long[] due = {6, 3, 1, 3, 6};
        DUE.is("orders", x.orders(), due[0]);
        x.puts(2, 0);
        DUE.is("orders behind puts()", x.orders(), due[1]);
        x.puts(0, 1);
        DUE.is("orders behind puts()", x.orders(), due[2]);
        x.undo();
        DUE.is("orders behind undo()", x.orders(), due[3]);
        x.cuts(2, 0);
        DUE.is("orders behind cuts()", x.orders(), due[4]);
        Due.stored(x, "n5;");
        DUE.is("orders behind store()", x.orders(), 120);
    }

    private static void number() {
        ArcOrder x = Due.of("n3;");
        DUE.is("number()", x.number(), 0);
        x.puts(2, 0);
        DUE.is("number() of 2 1 0 of three", x.number(), 2);
        x.cuts(2, 0);
        DUE.is("number() of 2 1 0 of all", x.number(), 5);
        x.sorts();
        DUE.is("number() sorted", x.number(), 0);
        ArcOrder y = Due.of("n12;");
        for (int u = 11; u > 5; u--) {
            y.puts(u, 11 - u);
            y.cuts(u, 11 - u);
        }
        DUE.is("order turned", Due.order(y), "11 10 9 8 7 6 5 4 3 2 1 0");
        DUE.is("number() of the last", y.number(), 479001599);
    }

    private static void kth() {
        ArcOrder x = Due.of("n4;a3 0;a1 2;");
        String[] due = {"1 2 3 0", "1 3 0 2", "1 3 2 0", "3 0 1 2", "3 1 0 2", "3 1 2 0", "-9 -9 -9 -9"};
        DUE.is("orders()", x.orders(), 6);
        for (int k = 0; k < due.length; k++) {
            DUE.is("kth(" + k + ")", Due.kth(x, k), due[k]);
        }
        DUE.is("kth(MAX)", Due.kth(x, Long.MAX_VALUE), due[6]);
        DUE.is("kth(2^32)", Due.kth(x, 1L << 32), due[6]);
        DUE.is("kth(-1, 0)", x.kth(-1, 0), ArcOrder.BAD);
        DUE.is("kth(MIN, 0)", x.kth(Long.MIN_VALUE, 0), ArcOrder.BAD);
        DUE.is("kth(0, -1)", x.kth(0, -1), ArcOrder.BAD);
        DUE.is("kth(0, 4)", x.kth(0, 4), ArcOrder.BAD);
        DUE.is("kth(99, 4)", x.kth(99, 4), ArcOrder.BAD);
        ArcOrder y = Due.of("n12;");
        DUE.is("the last of 12", Due.kth(y, 479001599), "11 10 9 8 7 6 5 4 3 2 1 0");
        DUE.is("a middle one of 12", Due.kth(y, 39916800), "1 0 2 3 4 5 6 7 8 9 10 11");
        DUE.is("number of THE ORDER", Due.kth(x, x.number()), Due.order(x));
    }

    private static void days() {
        ArcOrder x = Due.of("n7;a0 1;a1 2;a2 3;a0 4;a0 5;a0 6;");
        DUE.is("days(1)", x.days(1), 7);
        DUE.is("days(2)", x.days(2), 4);
        DUE.is("days(3)", x.days(3), 4);
        DUE.is("days(0)", x.days(0), ArcOrder.BAD);
        DUE.is("days(4)", x.days(4), ArcOrder.BAD);
        DUE.is("days(MIN)", x.days(Integer.MIN_VALUE), ArcOrder.BAD);
        // Whoever takes the lowest ready items first leaves the chain 4 5 6 7 for too late.
        ArcOrder y = Due.of("n8;a4 5;a5 6;a6 7;");
        DUE.is("chain and single ones, days(2)", y.days(2), 4);
        DUE.is("chain and single ones, days(3)", y.days(3), 4);
        // Whoever takes the highest ready items first leaves the chain 0 1 2 3 for too late.
        DUE.is("chain first, days(2)", Due.of("n8;a0 1;a1 2;a2 3;").days(2), 4);
        DUE.is("days(3) of 12", Due.of("n12;").days(3), 4);
        DUE.is("days(2) of 11", Due.of("n11;").days(2), 6);
        DUE.is("days(3) of 1", Due.of("n1;").days(3), 1);
        ArcOrder z = Due.of("n12;a0 1;a1 2;a2 3;a3 4;a4 5;a5 6;a6 7;a7 8;a8 9;a9 10;a10 11;");
        DUE.is("days(3) of a chain", z.days(3), 12);
        z.cuts(5, 6);
        DUE.is("days(3) of two chains", z.days(3), 6);
    }

    private static void sees() {
        ArcOrder x = new ArcOrder();
        DUE.is("sees(-1, 0)", x.sees(-1, 0), ArcOrder.BAD);
        DUE.is("sees(4, 0)", x.sees(4, 0), ArcOrder.BAD);
        DUE.is("sees(0, -1)", x.sees(0, -1), ArcOrder.BAD);
        DUE.is("sees(0, 2)", x.sees(0, 2), ArcOrder.BAD);
        for (int i = 1; i <= 6; i++) {
            DUE.is("sees " + i, x.sees(3, 1), i);
        }
        DUE.is("sees, full", x.sees(0, 0), ArcOrder.FULL);
        DUE.is("sees, full, bad", x.sees(0, 2), ArcOrder.BAD);
        DUE.is("count(2)", x.count(2), 6);
        DUE.is("what was full is not seen", x.unseen(0), 3);
        x.puts(0, 1);
        DUE.is("seen stays behind puts()", x.count(2), 6);
    }

    private static void forget() {
        ArcOrder x = new ArcOrder();
        DUE.is("forget() of none", x.forget(), 0);
        x.sees(0, 1);
        x.sees(0, 0);
        DUE.is("unseen(0)", x.unseen(0), 0);
        DUE.is("forget()", x.forget(), 2);
        DUE.is("count(2)", x.count(2), 0);
        DUE.is("unseen(0) forgotten", x.unseen(0), 12);
        DUE.is("sees() behind forget()", x.sees(2, 1), 1);
    }

    private static void unseen() {
        ArcOrder x = Due.of("n4;a0 1;a2 3;");
        // (1,0) and (3,2) close rings; 0-2 0-3 1-2 1-3 move none; the others move some.
        DUE.is("unseen(0)", x.unseen(0), 8);
        DUE.is("unseen(1)", x.unseen(1), 2);
        x.sees(0, 1);
        DUE.is("0 was moved", x.unseen(0), 2);
        DUE.is("0 was moved, the first", x.unseen(1), 32);
        x.sees(3, 0);
        DUE.is("3 was not", x.unseen(0), 1);
        DUE.is("3 was not, the first", x.unseen(1), 32);
        DUE.is("look() at one", x.look(), ArcOrder.NONE);
        x.puts(2, 0);
        DUE.is("as things are now", x.unseen(0), 0);
        DUE.is("none, the first", x.unseen(1), ArcOrder.NONE);
        DUE.is("unseen(-1)", x.unseen(-1), ArcOrder.BAD);
        DUE.is("unseen(2)", x.unseen(2), ArcOrder.BAD);
        DUE.is("nothing is changed", Due.order(x), "2 0 1 3");
        x.forget();
        ArcOrder y = Due.of("n2;a1 0;");
        DUE.is("unseen(0) of none", y.unseen(0), 0);
        DUE.is("unseen(1) of none", y.unseen(1), ArcOrder.NONE);
        DUE.is("look() of none", y.look(), ArcOrder.NONE);
    }

    private static void look() {
        DUE.is("look() at a new object", new ArcOrder().look(), 0);
        // Arcs that move: (2,1) moves 1 2; (2,0) and (1,0) are rings or there; item 0 is never moved.
        ArcOrder x = Due.of("n3;a0 1;a0 2;");
        DUE.is("unseen(0)", x.unseen(0), 2);
        DUE.is("look()", x.look(), 1);
        x.sees(1, 0);
        DUE.is("look() at one", x.look(), ArcOrder.NONE);
        x.forget();
        x.puts(1, 2);
        DUE.is("look() at none", x.look(), ArcOrder.NONE);
        DUE.is("look() of one item", Due.of("n1;").look(), ArcOrder.NONE);
        DUE.is("look() where none is moved", Due.of("n4;a0 1;a1 2;a2 3;").look(), 0);
    }

    private static void images() {
        ArcOrder x = Due.of("n3;a2 0;");
        DUE.is("keep(-1)", x.keep(-1), ArcOrder.BAD);
        DUE.is("keep(2)", x.keep(2), ArcOrder.BAD);
        DUE.is("back(-1)", x.back(-1), ArcOrder.BAD);
        DUE.is("back(2)", x.back(2), ArcOrder.BAD);
        DUE.is("back(0) of none", x.back(0), ArcOrder.STATE);
        DUE.is("keep(0)", x.keep(0), 1);
        DUE.is("back(1) of none", x.back(1), ArcOrder.STATE);
        x.puts(0, 1);
        DUE.is("keep(1)", x.keep(1), 2);
        DUE.is("keep is not undone", x.now(5), 1);
        x.cuts(2, 0);
        x.sorts();
        DUE.is("order", Due.order(x), "0 1 2");
        DUE.is("back(0)", x.back(0), 1);
        DUE.is("order of 0", Due.order(x), "2 1 0");
        DUE.is("arcs of 0", Due.arcs(x), "0 0 1");
        DUE.is("nothing can be undone", x.now(5), 0);
        DUE.is("undo()", x.undo(), ArcOrder.STATE);
        DUE.is("back(1)", x.back(1), 2);
        DUE.is("order of 1", Due.order(x), "2 0 1");
        DUE.is("arcs of 1", Due.arcs(x), "2 0 1");
        x.puts(2, 1);
        DUE.is("undo behind back()", x.undo(), 0);
        DUE.is("keep(0) again", x.keep(0), 2);
        x.cuts(0, 1);
        DUE.is("back(0) as kept last", x.back(0), 2);
        DUE.is("arcs of 0", Due.arcs(x), "2 0 1");
        x.cuts(0, 1);
        x.back(2);
        DUE.is("a refused back() leaves undo", x.now(5), 1);
    }

    private static void imagesKeepNothingElse() {
        ArcOrder x = new ArcOrder();
        x.keep(0);
        x.puts(0, 1);
        x.puts(1, 0);
        x.lists(2, 1);
        x.sees(1, 1);
        Due.type(x, "n9");
        x.back(0);
        DUE.is("list stays", x.count(1), 1);
        DUE.is("seen stays", x.count(2), 1);
        DUE.is("text stays", x.count(3), 2);
        DUE.is("ring stays", Due.ring(x), "0 1");
        DUE.is("arcs", x.now(0), 0);
    }

    private static void count() {
        ArcOrder x = Due.of("n7;");
        x.lists(0, 1);
        x.lists(1, 0);
        x.sees(6, 1);
        x.sees(6, 1);
        x.sees(5, 0);
        Due.type(x, "abcde");
        int[] due = {7, 2, 3, 5};
        for (int what = 0; what < 4; what++) {
            DUE.is("count(" + what + ")", x.count(what), due[what]);
        }
        DUE.is("count(-1)", x.count(-1), ArcOrder.BAD);
        DUE.is("count(4)", x.count(4), ArcOrder.BAD);
    }
}
