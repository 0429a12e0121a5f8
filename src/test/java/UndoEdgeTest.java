/** The edges of 'Terms', SORTED, UNDONE, IMAGES, and of promises 12, 13, 24, 25: a test for each sentence. */
public final class UndoEdgeTest {
    private static final Due DUE = new Due("UndoEdgeTest");
    /** Numbers that are never an image. */
    private static final int[] NEVER = {Integer.MIN_VALUE, -2, -1, 2, 3, 32, 256, Integer.MAX_VALUE};

    public static void main(String[] args) {
        undoOfEachKind();
        undoOfWhatMovedNone();
        undoNotOfWhatWasRefused();
        undoNotOfOtherCalls();
        undoKnowsTen();
        undoOfTenThenMore();
        undoBringsArcsAndOrder();
        undoCounts();
        undoOfNone();
        sortsCounts();
        sortsIsNumber0();
        sortsOfOneItem();
        keepImages();
        keepBad();
        backBad();
        backOfNoneKept();
        backOfEachImage();
        backLeavesNothingToUndo();
        imagesKeepNothingElse();
        keepAgain();
        imagesOfManyArcs();
        DUE.end();
    }

    private static void undoOfEachKind() {
        DUE.says("UNDONE: the latest puts(), adds(), cuts(), sorts() that was not refused");
        ArcOrder x = Due.of("n3;");
        x.puts(2, 0);
        x.lists(1, 2);
        x.adds();
        x.cuts(2, 0);
        x.sorts();
        DUE.is("order", Due.order(x), "0 1 2");
        DUE.is("now(5)", x.now(5), 4);
        DUE.is("undo sorts()", x.undo(), 3);
        DUE.is("order ahead of sorts()", Due.order(x), "1 2 0");
        DUE.is("arcs ahead of sorts()", Due.arcs(x), "0 4 0");
        DUE.is("undo cuts()", x.undo(), 2);
        DUE.is("arcs ahead of cuts()", Due.arcs(x), "0 4 1");
        DUE.is("undo adds()", x.undo(), 1);
        DUE.is("order ahead of adds()", Due.order(x), "2 1 0");
        DUE.is("arcs ahead of adds()", Due.arcs(x), "0 0 1");
        DUE.is("undo puts()", x.undo(), 0);
        DUE.is("order ahead of puts()", Due.order(x), "0 1 2");
        DUE.is("arcs ahead of puts()", Due.arcs(x), "0 0 0");
    }

    private static void undoOfWhatMovedNone() {
        DUE.says("that was not refused");
        ArcOrder x = Due.of("n3;");
        x.sorts();
        DUE.is("sorts() that moves none", x.now(5), 1);
        x.puts(0, 1);
        DUE.is("puts() that moves none", x.now(5), 2);
        x.lists(1, 2);
        x.adds();
        DUE.is("adds() that moves none", x.now(5), 3);
        x.cuts(0, 1);
        DUE.is("cuts()", x.now(5), 4);
        for (int left = 3; left >= 0; left--) {
            DUE.is("undo()", x.undo(), left);
        }
        DUE.is("undo() of none", x.undo(), ArcOrder.STATE);
    }

    private static void undoNotOfWhatWasRefused() {
        DUE.says("sorts() that was not refused (10 are known, older ones are lost)");
        ArcOrder x = Due.of("n3;");
        x.puts(0, 1);
        x.puts(0, 0);
        x.puts(0, 3);
        x.puts(0, 1);
        x.puts(1, 0);
        x.adds();
        x.lists(1, 0);
        x.adds();
        x.lists(1, 2);
        x.puts(1, 2);
        x.adds();
        x.cuts(0, 2);
        x.cuts(0, 0);
        DUE.is("now(5)", x.now(5), 2);
        DUE.is("undo()", x.undo(), 1);
        DUE.is("arcs", Due.arcs(x), "2 0 0");
        DUE.is("undo()", x.undo(), 0);
        DUE.is("arcs", Due.arcs(x), "0 0 0");
        DUE.is("undo()", x.undo(), ArcOrder.STATE);
    }

    private static void undoNotOfOtherCalls() {
        DUE.says("the latest puts(), adds(), cuts(), sorts()");
        ArcOrder x = Due.of("n3;");
        x.puts(2, 0);
        x.lists(0, 1);
        x.sees(1, 0);
        x.forget();
        x.keep(0);
        x.type('n');
        x.clear();
        x.arc(0, 1, 0);
        x.orders();
        x.days(2);
        x.look();
        DUE.is("now(5)", x.now(5), 1);
        DUE.is("undo()", x.undo(), 0);
        DUE.is("order", Due.order(x), "0 1 2");
        DUE.is("undo() is no step itself", x.undo(), ArcOrder.STATE);
    }

    /** Puts arcs (0, 1), (0, 2) .. , each a step. */
    private static ArcOrder afterSteps(int steps) {
        ArcOrder x = Due.of("n12;");
        for (int v = 1; v <= steps; v++) {
            x.puts(0, v);
        }
        return x;
    }

    private static void undoKnowsTen() {
        DUE.says("(10 are known, older ones are lost)");
        for (int steps = 9; steps <= 11; steps++) {
            ArcOrder x = afterSteps(steps);
            int known = Math.min(steps, 10);
            DUE.is(steps + " steps, now(5)", x.now(5), known);
            for (int left = known - 1; left >= 0; left--) {
                DUE.is(steps + " steps, undo()", x.undo(), left);
                DUE.is(steps + " steps, arcs", x.now(0), steps - known + left);
            }
            DUE.is(steps + " steps, undo() of none", x.undo(), ArcOrder.STATE);
            DUE.is(steps + " steps, arcs that stay", x.now(0), steps - known);
        }
    }

    private static void undoOfTenThenMore() {
        DUE.says("older ones are lost");
        ArcOrder x = afterSteps(11);
        for (int i = 0; i < 30; i++) {
            x.sorts();
        }
        DUE.is("41 steps, now(5)", x.now(5), 10);
        for (int i = 0; i < 5; i++) {
            x.undo();
        }
        x.cuts(0, 11);
        DUE.is("5 undone, and a step", x.now(5), 6);
        DUE.is("undo()", x.undo(), 5);
        DUE.is("arcs", x.now(0), 11);
        for (int i = 0; i < 6; i++) {
            x.puts(11, 10 - i);
            x.cuts(11, 10 - i);
        }
        DUE.is("5 and 12 steps", x.now(5), 10);
        for (int left = 9; left >= 0; left--) {
            DUE.is("undo()", x.undo(), left);
            DUE.is("arcs", x.now(0), left % 2 == 0 ? 11 : 12);
        }
    }

    private static void undoBringsArcsAndOrder() {
        DUE.says("older ones are lost): ARCS, THE ORDER.");
        ArcOrder x = Due.of("n12;a0 2;a2 4;a4 6;a6 8;a8 10;a1 3;a3 5;a5 7;a7 9;a9 11;");
        x.lists(0, 1);
        x.sees(3, 1);
        x.type('n');
        x.keep(1);
        x.puts(11, 0);
        x.puts(10, 1);
        DUE.is("undo()", x.undo(), 0);
        DUE.is("order", Due.order(x), "0 1 2 3 4 5 6 7 8 9 10 11");
        DUE.is("arcs", Due.arcs(x), "4 8 16 32 64 128 256 512 1024 2048 0 0");
        DUE.is("item(0, 2)", x.item(0, 2), 0);
        DUE.is("now(0)", x.now(0), 10);
        DUE.is("THE LIST stays", x.count(1), 1);
        DUE.is("SEEN stays", x.count(2), 1);
        DUE.is("THE TEXT stays", x.count(3), 1);
        DUE.is("the ring stays", x.lap(0), 1);
        DUE.is("the image stays", x.back(1), 10);
    }

    private static void undoCounts() {
        DUE.says("UNDONE: how many more may be.");
        ArcOrder x = afterSteps(2);
        DUE.is("now(5)", x.now(5), 2);
        DUE.is("undo()", x.undo(), 1);
        DUE.is("now(5)", x.now(5), 1);
        DUE.is("undo()", x.undo(), 0);
        DUE.is("now(5)", x.now(5), 0);
    }

    private static void undoOfNone() {
        DUE.says("how many more may be. STATE: none.");
        ArcOrder x = new ArcOrder();
        DUE.is("a new object", x.undo(), ArcOrder.STATE);
        x.puts(3, 0);
        x.undo();
        DUE.is("all is undone", x.undo(), ArcOrder.STATE);
        DUE.is("order", Due.order(x), "0 1 2 3");
        ArcOrder told = Due.of("n2;a1 0;");
        DUE.is("what a text told", told.undo(), ArcOrder.STATE);
        DUE.is("arcs", told.now(0), 1);
    }

    /** No arcs, the last item first. */
    private static ArcOrder turned(int items) {
        ArcOrder x = Due.of("n" + items + ";");
        for (int u = items - 1; u > items - 1 - u; u--) {
            x.puts(u, items - 1 - u);
            x.cuts(u, items - 1 - u);
        }
        return x;
    }

    private static void sortsCounts() {
        DUE.says("SORTED: how many ITEMS have another PLACE.");
        DUE.is("none", Due.of("n12;").sorts(), 0);
        DUE.is("none, by arcs", Due.of("n2;a1 0;").sorts(), 0);
        DUE.is("two", turned(2).sorts(), 2);
        DUE.is("all but the middle one", turned(11).sorts(), 10);
        DUE.is("all", turned(12).sorts(), 12);
        ArcOrder x = turned(12);
        x.sorts();
        DUE.is("again", x.sorts(), 0);
    }

    private static void sortsIsNumber0() {
        DUE.says("SORTED: THE ORDER becomes the one of NUMBER 0.");
        ArcOrder x = turned(12);
        x.puts(11, 0);
        x.puts(5, 2);
        DUE.is("number() ahead", x.number() > 0 ? 1 : 0, 1);
        x.sorts();
        DUE.is("number()", x.number(), 0);
        DUE.is("order", Due.order(x), "1 3 4 5 2 6 7 8 9 10 11 0");
        DUE.is("kth(0)", Due.kth(x, 0), Due.order(x));
        DUE.is("arcs stay", x.now(0), 2);
        // The lowest that can be made is next, not all of those that could be made at first.
        ArcOrder y = Due.of("n4;a3 0;a1 2;");
        y.sorts();
        DUE.is("order", Due.order(y), "1 2 3 0");
    }

    private static void sortsOfOneItem() {
        DUE.says("how many ITEMS have another PLACE.");
        ArcOrder x = Due.of("n1;");
        DUE.is("sorts()", x.sorts(), 0);
        DUE.is("now(5)", x.now(5), 1);
        DUE.is("undo()", x.undo(), 0);
        DUE.is("at(0)", x.at(0), 0);
    }

    private static void keepImages() {
        DUE.says("An IMAGE is kept: ARCS. BAD.");
        ArcOrder x = Due.of("n3;");
        DUE.is("keep(0) of no arcs", x.keep(0), 0);
        x.puts(2, 0);
        DUE.is("keep(1) of one", x.keep(1), 1);
        DUE.is("keep() is no step", x.now(5), 1);
        DUE.is("order stays", Due.order(x), "2 1 0");
        DUE.is("of all arcs", ItemsEdgeTest.withAllArcs().keep(1), 66);
    }

    private static void keepBad() {
        DUE.says("IMAGES 0, 1 keep ARCS, THE ORDER");
        ArcOrder x = Due.of("n3;a0 1;");
        for (int image : NEVER) {
            DUE.is("keep(" + image + ")", x.keep(image), ArcOrder.BAD);
        }
        DUE.is("none was kept by these, 0", x.back(0), ArcOrder.STATE);
        DUE.is("none was kept by these, 1", x.back(1), ArcOrder.STATE);
    }

    private static void backBad() {
        DUE.says("All of that becomes as an IMAGE has it: ARCS. BAD");
        ArcOrder x = Due.of("n3;");
        for (int image : NEVER) {
            DUE.is("none kept, back(" + image + ")", x.back(image), ArcOrder.BAD);
        }
        x.keep(0);
        x.keep(1);
        x.puts(2, 0);
        for (int image : NEVER) {
            DUE.is("both kept, back(" + image + ")", x.back(image), ArcOrder.BAD);
        }
        DUE.is("order", Due.order(x), "2 1 0");
        DUE.is("now(5)", x.now(5), 1);
    }

    private static void backOfNoneKept() {
        DUE.says("STATE: none was kept.");
        ArcOrder x = Due.of("n3;");
        x.puts(2, 0);
        DUE.is("back(0)", x.back(0), ArcOrder.STATE);
        DUE.is("back(1)", x.back(1), ArcOrder.STATE);
        DUE.is("what can be undone stays", x.now(5), 1);
        x.keep(1);
        DUE.is("back(0), 1 was kept", x.back(0), ArcOrder.STATE);
        DUE.is("back(1)", x.back(1), 1);
        ArcOrder y = Due.of("n3;");
        y.keep(0);
        DUE.is("back(1), 0 was kept", y.back(1), ArcOrder.STATE);
        DUE.is("back(0)", y.back(0), 0);
    }

    private static void backOfEachImage() {
        DUE.says("All of that becomes as an IMAGE has it: ARCS.");
        ArcOrder x = Due.of("n3;");
        x.keep(0);
        x.puts(2, 0);
        x.puts(0, 1);
        x.keep(1);
        x.cuts(2, 0);
        x.sorts();
        DUE.is("back(1)", x.back(1), 2);
        DUE.is("order of 1", Due.order(x), "2 0 1");
        DUE.is("arcs of 1", Due.arcs(x), "2 0 1");
        DUE.is("item(0, 2)", x.item(0, 2), 4);
        DUE.is("orders()", x.orders(), 1);
        DUE.is("back(0)", x.back(0), 0);
        DUE.is("order of 0", Due.order(x), "0 1 2");
        DUE.is("arcs of 0", Due.arcs(x), "0 0 0");
        DUE.is("orders()", x.orders(), 6);
        DUE.is("back(1) again", x.back(1), 2);
        DUE.is("order of 1", Due.order(x), "2 0 1");
    }

    private static void backLeavesNothingToUndo() {
        DUE.says("nothing else (nothing can be UNDONE behind back())");
        ArcOrder x = afterSteps(11);
        x.keep(0);
        DUE.is("behind keep()", x.now(5), 10);
        x.back(0);
        DUE.is("behind back()", x.now(5), 0);
        DUE.is("undo()", x.undo(), ArcOrder.STATE);
        x.cuts(0, 11);
        DUE.is("a step behind back()", x.now(5), 1);
        DUE.is("undo()", x.undo(), 0);
        DUE.is("arcs", x.now(0), 11);
    }

    private static void imagesKeepNothingElse() {
        DUE.says("keep ARCS, THE ORDER; nothing else");
        ArcOrder x = Due.of("n3;");
        x.lists(1, 0);
        x.sees(1, 1);
        x.type('a');
        x.keep(0);
        x.puts(0, 2);
        x.puts(2, 0);
        x.lists(2, 1);
        x.sees(2, 0);
        x.sees(2, 0);
        Due.type(x, "bcd");
        x.back(0);
        DUE.is("THE LIST", x.count(1), 2);
        DUE.is("SEEN", x.count(2), 3);
        DUE.is("THE TEXT", x.count(3), 4);
        DUE.is("the ring", Due.ring(x), "0 2");
        DUE.is("adds() of the list that stayed", x.adds(), 2);
        DUE.is("order", Due.order(x), "2 1 0");
    }

    private static void keepAgain() {
        DUE.says("An IMAGE is kept");
        ArcOrder x = Due.of("n3;");
        x.keep(0);
        x.puts(2, 0);
        DUE.is("keep(0) again", x.keep(0), 1);
        x.undo();
        DUE.is("back(0)", x.back(0), 1);
        DUE.is("order", Due.order(x), "2 1 0");
        // What is done behind back() does not change the image.
        x.puts(0, 1);
        x.sorts();
        DUE.is("back(0) again", x.back(0), 1);
        DUE.is("order", Due.order(x), "2 1 0");
    }

    private static void imagesOfManyArcs() {
        DUE.says("becomes as an IMAGE has it: ARCS.");
        ArcOrder x = ItemsEdgeTest.withAllArcs();
        x.keep(1);
        for (int v = 1; v < 12; v++) {
            x.cuts(0, v);
        }
        DUE.is("back(1)", x.back(1), 66);
        DUE.is("item(0, 1)", x.item(0, 1), 4094);
    }
}
