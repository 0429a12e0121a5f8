/** Promises 8 to 14: arcs put, listed, added, cut, sorted, undone, refused rings. */
public final class DoneTest {
    private static final Due DUE = new Due("DoneTest");

    public static void main(String[] args) {
        puts();
        putsMovesJustWhatHangsTogether();
        putsRefused();
        lists();
        adds();
        addsRefused();
        cuts();
        sorts();
        undo();
        undoKnowsTen();
        lap();
        lapOfSeveralShortest();
        DUE.end();
    }

    private static void puts() {
        ArcOrder x = new ArcOrder();
        DUE.is("puts(0, 3)", x.puts(0, 3), 0);
        DUE.is("order", Due.order(x), "0 1 2 3");
        DUE.is("puts(2, 0)", x.puts(2, 0), 2);
        DUE.is("order", Due.order(x), "2 1 0 3");
        DUE.is("puts(3, 1)", x.puts(3, 1), 3);
        DUE.is("order", Due.order(x), "2 0 3 1");
        DUE.is("arcs", Due.arcs(x), "8 0 1 2");
        DUE.is("now(0)", x.now(0), 3);
        DUE.is("now(5)", x.now(5), 3);
    }

    private static void putsMovesJustWhatHangsTogether() {
        // 1 is ahead of 6, and 8 behind 4, but both stand beyond the span: they stay.
        ArcOrder x = Due.of("n10;a1 6;a2 4;a3 6;a4 8;a5 7;");
        DUE.is("puts(6, 2)", x.puts(6, 2), 4);
        DUE.is("order", Due.order(x), "0 1 3 6 2 5 4 7 8 9");
        DUE.is("puts(9, 0)", x.puts(9, 0), 2);
        DUE.is("order", Due.order(x), "9 1 3 6 2 5 4 7 8 0");
        DUE.is("puts(8, 5)", x.puts(8, 5), 4);
        DUE.is("order", Due.order(x), "9 1 3 6 2 4 8 5 7 0");
    }

    private static void putsRefused() {
        ArcOrder x = Due.of("n3;a0 1;a1 2;");
        DUE.is("puts(0, 0)", x.puts(0, 0), ArcOrder.BAD);
        DUE.is("puts(-1, 0)", x.puts(-1, 0), ArcOrder.BAD);
        DUE.is("puts(0, -1)", x.puts(0, -1), ArcOrder.BAD);
        DUE.is("puts(3, 0)", x.puts(3, 0), ArcOrder.BAD);
        DUE.is("puts(0, 3)", x.puts(0, 3), ArcOrder.BAD);
        DUE.is("puts(MAX, MIN)", x.puts(Integer.MAX_VALUE, Integer.MIN_VALUE), ArcOrder.BAD);
        DUE.is("puts(0, 1)", x.puts(0, 1), ArcOrder.STATE);
        DUE.is("puts(2, 0)", x.puts(2, 0), ArcOrder.RING);
        DUE.is("arcs", Due.arcs(x), "2 4 0");
        DUE.is("order", Due.order(x), "0 1 2");
        DUE.is("now(5)", x.now(5), 0);
        DUE.is("ring", Due.ring(x), "0 1 2");
    }

    private static void lists() {
        ArcOrder x = Due.of("n5;a0 1;");
        DUE.is("lists(0, 0)", x.lists(0, 0), ArcOrder.BAD);
        DUE.is("lists(5, 0)", x.lists(5, 0), ArcOrder.BAD);
        DUE.is("lists(0, 5)", x.lists(0, 5), ArcOrder.BAD);
        DUE.is("lists(-1, 5)", x.lists(-1, 5), ArcOrder.BAD);
        DUE.is("lists(0, 1)", x.lists(0, 1), ArcOrder.STATE);
        DUE.is("lists(1, 0), a ring", x.lists(1, 0), 1);
        DUE.is("lists(1, 0) again", x.lists(1, 0), ArcOrder.STATE);
        int[] to = {1, 0, 3, 0, 2, 4, 0};
        int[] from = {2, 2, 2, 3, 3, 3, 4};
        for (int i = 0; i < 7; i++) {
            DUE.is("lists " + i, x.lists(from[i], to[i]), i + 2);
        }
        DUE.is("lists, full", x.lists(4, 1), ArcOrder.FULL);
        DUE.is("lists, full, listed", x.lists(4, 0), ArcOrder.STATE);
        DUE.is("lists, full, there", x.lists(0, 1), ArcOrder.STATE);
        DUE.is("lists, full, bad", x.lists(4, 4), ArcOrder.BAD);
        DUE.is("count(1)", x.count(1), 8);
        DUE.is("now(0)", x.now(0), 1);
    }

    private static void adds() {
        ArcOrder x = new ArcOrder();
        DUE.is("adds() of none", x.adds(), ArcOrder.STATE);
        x.lists(3, 0);
        x.lists(2, 3);
        x.lists(0, 1);
        DUE.is("adds()", x.adds(), 4);
        DUE.is("order", Due.order(x), "2 3 0 1");
        DUE.is("count(1)", x.count(1), 0);
        DUE.is("now(0)", x.now(0), 3);
        DUE.is("now(5)", x.now(5), 1);
        DUE.is("undo()", x.undo(), 0);
        DUE.is("order undone", Due.order(x), "0 1 2 3");
        DUE.is("arcs undone", Due.arcs(x), "0 0 0 0");
        // 1 is moved by the first arc, and again by the last, back to the place that it had ahead of all.
        ArcOrder z = Due.of("n4;");
        z.lists(1, 0);
        z.lists(0, 2);
        z.lists(3, 1);
        DUE.is("adds() that moves one back", z.adds(), 3);
        DUE.is("order", Due.order(z), "3 1 0 2");
    }

    private static void addsRefused() {
        ArcOrder x = new ArcOrder();
        x.lists(0, 1);
        x.puts(0, 1);
        x.puts(3, 2);
        DUE.is("one is there by now", x.adds(), ArcOrder.STATE);
        DUE.is("list stays", x.count(1), 1);
        x.cuts(0, 1);
        DUE.is("it is there no more", x.adds(), 0);
        DUE.is("list is empty", x.count(1), 0);
        x.lists(2, 0);
        x.lists(1, 3);
        x.lists(1, 2);
        x.lists(1, 0);
        int undone = x.now(5);
        DUE.is("a ring by those ahead", x.adds(), ArcOrder.RING);
        DUE.is("list is empty by a ring", x.count(1), 0);
        DUE.is("ring", Due.ring(x), "3 2 0 1");
        DUE.is("arcs", Due.arcs(x), "2 0 0 4");
        DUE.is("order", Due.order(x), "0 1 3 2");
        DUE.is("now(5)", x.now(5), undone);
        DUE.is("now(0)", x.now(0), 2);
    }

    private static void cuts() {
        ArcOrder x = Due.of("n3;a2 0;a0 1;");
        DUE.is("cuts(0, 2)", x.cuts(0, 2), ArcOrder.STATE);
        DUE.is("cuts(0, 0)", x.cuts(0, 0), ArcOrder.BAD);
        DUE.is("cuts(3, 0)", x.cuts(3, 0), ArcOrder.BAD);
        DUE.is("cuts(0, -1)", x.cuts(0, -1), ArcOrder.BAD);
        DUE.is("now(5)", x.now(5), 0);
        DUE.is("cuts(2, 0)", x.cuts(2, 0), 1);
        DUE.is("order stays", Due.order(x), "2 0 1");
        DUE.is("arcs", Due.arcs(x), "2 0 0");
        DUE.is("in", x.item(0, 2), 0);
        DUE.is("cuts(2, 0) again", x.cuts(2, 0), ArcOrder.STATE);
        DUE.is("cuts(0, 1)", x.cuts(0, 1), 0);
        DUE.is("now(5)", x.now(5), 2);
    }

    private static void sorts() {
        ArcOrder x = Due.of("n5;a4 0;a3 1;");
        DUE.is("order", Due.order(x), "4 3 2 1 0");
        DUE.is("sorts()", x.sorts(), 3);
        DUE.is("order sorted", Due.order(x), "2 3 1 4 0");
        DUE.is("number()", x.number(), 0);
        DUE.is("sorts() again", x.sorts(), 0);
        DUE.is("now(5)", x.now(5), 2);
        x.undo();
        DUE.is("undo()", x.undo(), 0);
        DUE.is("order undone", Due.order(x), "4 3 2 1 0");
    }

    private static void undo() {
        ArcOrder x = new ArcOrder();
        x.puts(3, 0);
        x.lists(2, 3);
        x.lists(0, 1);
        x.adds();
        x.lists(1, 2);
        x.sees(1, 0);
        x.cuts(3, 0);
        x.sorts();
        x.puts(3, 2);
        DUE.is("order", Due.order(x), "0 1 2 3");
        DUE.is("undo sorts()", x.undo(), 3);
        DUE.is("undo cuts()", x.undo(), 2);
        DUE.is("arcs", Due.arcs(x), "2 0 8 1");
        DUE.is("undo adds()", x.undo(), 1);
        DUE.is("arcs", Due.arcs(x), "0 0 0 1");
        DUE.is("order", Due.order(x), "3 1 2 0");
        DUE.is("undo puts()", x.undo(), 0);
        DUE.is("order", Due.order(x), "0 1 2 3");
        DUE.is("undo of none", x.undo(), ArcOrder.STATE);
        DUE.is("list stays", x.count(1), 1);
        DUE.is("seen stays", x.count(2), 1);
    }

    private static void undoKnowsTen() {
        ArcOrder x = Due.of("n12;");
        for (int v = 1; v < 12; v++) {
            x.puts(0, v);
        }
        x.puts(11, 1);
        DUE.is("now(5)", x.now(5), 10);
        for (int left = 9; left >= 0; left--) {
            DUE.is("undo", x.undo(), left);
            DUE.is("arcs left", x.now(0), 2 + left);
        }
        DUE.is("undo of none", x.undo(), ArcOrder.STATE);
        DUE.is("arcs", x.item(0, 1), 6);
    }

    private static void lap() {
        ArcOrder x = new ArcOrder();
        DUE.is("lap(-2)", x.lap(-2), ArcOrder.BAD);
        DUE.is("lap(MIN)", x.lap(Integer.MIN_VALUE), ArcOrder.BAD);
        DUE.is("lap(-1)", x.lap(-1), 0);
        DUE.is("lap(0)", x.lap(0), ArcOrder.NONE);
        x.puts(2, 0);
        x.puts(0, 3);
        DUE.is("puts(3, 2)", x.puts(3, 2), ArcOrder.RING);
        DUE.is("lap(-1)", x.lap(-1), 3);
        DUE.is("ring", Due.ring(x), "2 0 3");
        DUE.is("lap(3)", x.lap(3), ArcOrder.NONE);
        DUE.is("lap(MAX)", x.lap(Integer.MAX_VALUE), ArcOrder.NONE);
        x.arc(0, 2, 1);
        x.puts(1, 3);
        x.undo();
        DUE.is("ring stays", Due.ring(x), "2 0 3");
        DUE.is("puts(0, 2)", x.puts(0, 2), ArcOrder.RING);
        DUE.is("the last ring", Due.ring(x), "2 0");
        ArcOrder y = Due.of("n12;a0 1;a1 2;a2 3;a3 4;a4 5;a5 6;a6 7;a7 8;a8 9;a9 10;a10 11;");
        DUE.is("puts(11, 0)", y.puts(11, 0), ArcOrder.RING);
        DUE.is("ring of all", Due.ring(y), "0 1 2 3 4 5 6 7 8 9 10 11");
    }

    private static void lapOfSeveralShortest() {
        // From 0 to 7: by 1 2 6 (longer), by 5 4, by 3 6; 3 6 is the first of the shortest.
        ArcOrder x = Due.of("n8;a0 1;a1 2;a2 6;a6 7;a0 5;a5 4;a4 7;a0 3;a3 6;");
        DUE.is("puts(7, 0)", x.puts(7, 0), ArcOrder.RING);
        DUE.is("ring", Due.ring(x), "0 3 6 7");
        x.cuts(3, 6);
        x.puts(7, 0);
        DUE.is("ring", Due.ring(x), "0 5 4 7");
        x.cuts(0, 5);
        x.puts(7, 0);
        DUE.is("ring", Due.ring(x), "0 1 2 6 7");
        x.puts(0, 7);
        x.puts(7, 0);
        DUE.is("ring", Due.ring(x), "0 7");
    }
}
