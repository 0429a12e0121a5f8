import java.util.function.Supplier;
import java.util.function.ToLongFunction;

/** What 'Terms' says of refused calls: which refusal comes first, and that nothing changes; and of 512 calls. */
public final class RefusedEdgeTest {
    private static final Due DUE = new Due("RefusedEdgeTest");

    public static void main(String[] args) {
        badChangesNothing();
        badOfAFullStoreChangesNothing();
        stateChangesNothing();
        stateOfANewObjectChangesNothing();
        addsStateChangesNothing();
        fullChangesNothing();
        noneChangesNothing();
        faultChangesNothing();
        everyFaultChangesNothing();
        ringByPutsChangesOnlyLap();
        ringByAddsChangesOnlyLapAndList();
        badIsAheadOfState();
        badIsAheadOfFull();
        stateIsAheadOfFull();
        stateIsAheadOfRing();
        fiveHundredAndTwelveCalls();
        DUE.end();
    }

    /** Some of everything: arcs, a list, steps, images, seen items, a text that is not whole, a ring. */
    private static ArcOrder some() {
        ArcOrder x = someButAList();
        x.lists(4, 2);
        x.lists(1, 4);
        return x;
    }

    private static ArcOrder someButAList() {
        ArcOrder x = Due.of("n5;a4 0;a0 2;");
        x.puts(3, 1);
        x.keep(0);
        x.puts(2, 3);
        x.keep(1);
        x.cuts(4, 0);
        x.sorts();
        x.puts(3, 0);
        x.sees(1, 0);
        x.sees(4, 1);
        Due.type(x, "n3;a2");
        return x;
    }

    /** As much as can be of everything: eight listed, ten steps, both images, six seen, 120 letters. */
    private static ArcOrder full() {
        ArcOrder x = fullButAList();
        int[][] arcs = {{0, 2}, {0, 3}, {1, 2}, {1, 3}, {2, 3}, {2, 0}, {2, 1}, {3, 2}};
        for (int[] arc : arcs) {
            x.lists(arc[0], arc[1]);
        }
        return x;
    }

    private static ArcOrder fullButAList() {
        ArcOrder x = Due.of("n5;a4 0;");
        for (int v = 1; v < 4; v++) {
            x.puts(4, v);
        }
        x.keep(0);
        for (int i = 0; i < 4; i++) {
            x.puts(3, 2);
            x.cuts(3, 2);
        }
        x.puts(0, 1);
        x.keep(1);
        x.puts(1, 0);
        for (int i = 0; i < 6; i++) {
            x.sees(i % 3, 0);
        }
        Due.type(x, "n3;a2 0;" + " ".repeat(112));
        return x;
    }

    /** Of which a call is refused: the answer is due, and objects are alike with and without that call. */
    private static void refused(String call, Supplier<ArcOrder> made, ToLongFunction<ArcOrder> done, long due) {
        DUE.is(call, done.applyAsLong(made.get()), due);
        Supplier<ArcOrder> then = () -> {
            ArcOrder x = made.get();
            done.applyAsLong(x);
            return x;
        };
        DUE.is("all behind " + call, Probe.deep(then), Probe.deep(made));
        DUE.is("the ring behind " + call, Probe.ring(then.get()), Probe.ring(made.get()));
    }

    private static void bad(String call, Supplier<ArcOrder> made, ToLongFunction<ArcOrder> done) {
        refused(call, made, done, ArcOrder.BAD);
    }

    private static void badChangesNothing() {
        DUE.says("Refused, and nothing changes, the first of these: BAD (a number is not as told");
        eachBad(RefusedEdgeTest::some);
    }

    private static void badOfAFullStoreChangesNothing() {
        DUE.says("BAD (a number is not as told, or there is no such thing)");
        eachBad(RefusedEdgeTest::full);
    }

    private static void eachBad(Supplier<ArcOrder> made) {
        bad("type(-1)", made, x -> x.type(-1));
        bad("type(256)", made, x -> x.type(256));
        bad("item(5, 0)", made, x -> x.item(5, 0));
        bad("item(-1, 0)", made, x -> x.item(-1, 0));
        bad("item(0, 7)", made, x -> x.item(0, 7));
        bad("at(5)", made, x -> x.at(5));
        bad("now(6)", made, x -> x.now(6));
        bad("puts(0, 0)", made, x -> x.puts(0, 0));
        bad("puts(5, 0)", made, x -> x.puts(5, 0));
        bad("puts(0, -1)", made, x -> x.puts(0, -1));
        bad("lists(0, 0)", made, x -> x.lists(0, 0));
        bad("lists(5, 0)", made, x -> x.lists(5, 0));
        bad("lists(0, -1)", made, x -> x.lists(0, -1));
        bad("cuts(0, 0)", made, x -> x.cuts(0, 0));
        bad("cuts(5, 0)", made, x -> x.cuts(5, 0));
        bad("cuts(0, -1)", made, x -> x.cuts(0, -1));
        bad("lap(-2)", made, x -> x.lap(-2));
        bad("arc(0, 0, 0)", made, x -> x.arc(0, 0, 0));
        bad("arc(5, 0, 0)", made, x -> x.arc(5, 0, 0));
        bad("arc(1, 4, 4)", made, x -> x.arc(1, 4, 4));
        bad("kth(-1, 0)", made, x -> x.kth(-1, 0));
        bad("kth(0, 5)", made, x -> x.kth(0, 5));
        bad("days(0)", made, x -> x.days(0));
        bad("days(4)", made, x -> x.days(4));
        bad("sees(5, 0)", made, x -> x.sees(5, 0));
        bad("sees(0, 2)", made, x -> x.sees(0, 2));
        bad("unseen(2)", made, x -> x.unseen(2));
        bad("keep(2)", made, x -> x.keep(2));
        bad("keep(-1)", made, x -> x.keep(-1));
        bad("back(2)", made, x -> x.back(2));
        bad("back(-1)", made, x -> x.back(-1));
        bad("count(4)", made, x -> x.count(4));
    }

    private static void stateChangesNothing() {
        DUE.says("STATE (as told)");
        Supplier<ArcOrder> made = RefusedEdgeTest::some;
        refused("puts() of one that is there", made, x -> x.puts(0, 2), ArcOrder.STATE);
        refused("lists() of one that is there", made, x -> x.lists(0, 2), ArcOrder.STATE);
        refused("lists() of one that is listed", made, x -> x.lists(1, 4), ArcOrder.STATE);
        refused("cuts() of one that is not there", made, x -> x.cuts(2, 0), ArcOrder.STATE);
        refused("cuts() of one that is listed", made, x -> x.cuts(1, 4), ArcOrder.STATE);
        refused("arc() of one that is there", made, x -> x.arc(0, 2, 0), ArcOrder.STATE);
        refused("puts() of one that is there, full", RefusedEdgeTest::full, x -> x.puts(4, 0), ArcOrder.STATE);
        refused("cuts() of one that is not there, full", RefusedEdgeTest::full, x -> x.cuts(0, 4), ArcOrder.STATE);
    }

    private static void stateOfANewObjectChangesNothing() {
        DUE.says("nothing changes, the first of these");
        refused("adds() of none", ArcOrder::new, ArcOrder::adds, ArcOrder.STATE);
        refused("undo() of none", ArcOrder::new, ArcOrder::undo, ArcOrder.STATE);
        refused("back(0) of none", ArcOrder::new, x -> x.back(0), ArcOrder.STATE);
        refused("back(1) of none", ArcOrder::new, x -> x.back(1), ArcOrder.STATE);
        refused("cuts() of none", ArcOrder::new, x -> x.cuts(0, 1), ArcOrder.STATE);
        Supplier<ArcOrder> kept = () -> {
            ArcOrder x = new ArcOrder();
            x.puts(3, 0);
            x.keep(0);
            x.sorts();
            return x;
        };
        refused("back(1), only 0 was kept", kept, x -> x.back(1), ArcOrder.STATE);
    }

    private static void addsStateChangesNothing() {
        DUE.says("STATE: THE LIST is empty, one of it is there by now");
        Supplier<ArcOrder> there = () -> {
            ArcOrder x = some();
            x.puts(1, 4);
            return x;
        };
        refused("adds() of one that is there", there, ArcOrder::adds, ArcOrder.STATE);
        Supplier<ArcOrder> thereOfEight = () -> {
            ArcOrder x = full();
            x.puts(0, 2);
            return x;
        };
        refused("adds(), one of eight is there", thereOfEight, ArcOrder::adds, ArcOrder.STATE);
    }

    private static void fullChangesNothing() {
        DUE.says("FULL, RING (lap() tells it).");
        refused("type(), full", RefusedEdgeTest::full, x -> x.type('x'), ArcOrder.FULL);
        refused("type(' '), full", RefusedEdgeTest::full, x -> x.type(' '), ArcOrder.FULL);
        refused("lists(), full", RefusedEdgeTest::full, x -> x.lists(3, 0), ArcOrder.FULL);
        refused("sees(), full", RefusedEdgeTest::full, x -> x.sees(3, 0), ArcOrder.FULL);
        refused("sees() of a moved one, full", RefusedEdgeTest::full, x -> x.sees(0, 1), ArcOrder.FULL);
    }

    private static void noneChangesNothing() {
        DUE.says("NONE: there are not so many.");
        refused("kth() of not so many", RefusedEdgeTest::some, x -> x.kth(Long.MAX_VALUE, 0), ArcOrder.NONE);
        refused("lap() of not so many", RefusedEdgeTest::some, x -> x.lap(12), ArcOrder.NONE);
    }

    private static void faultChangesNothing() {
        DUE.says("-10 less FAULT: nothing changes.");
        refused("store() of a text that ends too early", RefusedEdgeTest::some, ArcOrder::store, -15);
        Supplier<ArcOrder> wrongAtItsEnd = () -> {
            ArcOrder x = full();
            x.clear();
            Due.type(x, "n12;a11 0;" + " ".repeat(109) + "x");
            return x;
        };
        refused("store() of a full text", wrongAtItsEnd, ArcOrder::store, -129);
    }

    private static void everyFaultChangesNothing() {
        DUE.says("how many ENTRIES. -10 less FAULT: nothing changes.");
        Object[][] faults = {
            {"n2;a1 0;x", 8}, {"n2;a1 0;n2;", 8}, {"n12;a11 11;", 8}, {"a3 2;a3 2;", 8}, {"a3 2;a2 3;", 8},
            {"n13;", 1}, {"n2;a1 2;", 6}, {"n100;", 1}, {"n02;", 1}, {"n2", 2},
        };
        for (Object[] fault : faults) {
            Supplier<ArcOrder> typed = () -> {
                ArcOrder x = some();
                x.clear();
                Due.type(x, (String) fault[0]);
                return x;
            };
            refused("store() of '" + fault[0] + "'", typed, ArcOrder::store, -10 - (Integer) fault[1]);
        }
    }

    /** Puts an arc that closes a ring: all but the ring stays as it is. */
    private static void ringByPuts(Supplier<ArcOrder> made, int u, int v, String ring) {
        ArcOrder x = made.get();
        DUE.is("puts(" + u + ", " + v + ")", x.puts(u, v), ArcOrder.RING);
        DUE.is("the ring", Due.ring(x), ring);
        Supplier<ArcOrder> then = () -> {
            ArcOrder y = made.get();
            y.puts(u, v);
            return y;
        };
        DUE.is("all but the ring", Probe.deep(then), Probe.deep(made));
    }

    private static void ringByPutsChangesOnlyLap() {
        DUE.says("RING (lap() tells it).");
        ringByPuts(RefusedEdgeTest::some, 2, 0, "0 2");
        ringByPuts(RefusedEdgeTest::some, 1, 0, "0 2 3 1");
        ringByPuts(RefusedEdgeTest::full, 1, 4, "4 1");
        ringByPuts(() -> Due.of("n2;a1 0;"), 0, 1, "1 0");
    }

    private static void ringByAdds(Supplier<ArcOrder> made, int[][] arcs, String ring) {
        Supplier<ArcOrder> then = () -> {
            ArcOrder x = made.get();
            for (int[] arc : arcs) {
                x.lists(arc[0], arc[1]);
            }
            DUE.is("as many are listed", x.count(1), arcs.length);
            DUE.is("adds()", x.adds(), ArcOrder.RING);
            return x;
        };
        DUE.is("the ring", Due.ring(then.get()), ring);
        DUE.is("all but the ring, with an empty list", Probe.deep(then), Probe.deep(made));
    }

    private static void ringByAddsChangesOnlyLapAndList() {
        DUE.says("nothing is another one. THE LIST is empty then, in both cases.");
        Supplier<ArcOrder> some = RefusedEdgeTest::someButAList;
        ringByAdds(some, new int[][] {{1, 0}}, "0 2 3 1");
        ringByAdds(some, new int[][] {{0, 1}, {2, 1}, {1, 4}, {4, 3}}, "3 1 4");
        ringByAdds(some, new int[][] {{4, 0}, {4, 1}, {4, 2}, {0, 3}, {0, 1}, {2, 1}, {4, 3}, {1, 4}}, "4 1");
        Supplier<ArcOrder> full = RefusedEdgeTest::fullButAList;
        ringByAdds(full, new int[][] {{0, 2}, {0, 3}, {1, 2}, {1, 3}, {2, 3}, {1, 4}}, "4 1");
        ringByAdds(full, new int[][] {{1, 2}, {2, 3}, {1, 3}, {0, 2}, {0, 3}, {3, 1}}, "1 3");
    }

    private static void badIsAheadOfState() {
        DUE.says("the first of these: BAD (a number is not as told, or there is no such thing), STATE (as told)");
        ArcOrder x = Due.of("n3;a0 1;");
        DUE.is("arc(0, 1, 4)", x.arc(0, 1, 4), ArcOrder.BAD);
        DUE.is("arc(0, 1, -1)", x.arc(0, 1, -1), ArcOrder.BAD);
        DUE.is("cuts(2, 2)", x.cuts(2, 2), ArcOrder.BAD);
        DUE.is("cuts(2, 3)", x.cuts(2, 3), ArcOrder.BAD);
        DUE.is("back(2)", x.back(2), ArcOrder.BAD);
        DUE.is("puts(1, 1)", x.puts(1, 1), ArcOrder.BAD);
    }

    private static void badIsAheadOfFull() {
        DUE.says("STATE (as told), FULL");
        ArcOrder x = full();
        DUE.is("type(256)", x.type(256), ArcOrder.BAD);
        DUE.is("lists(0, 0)", x.lists(0, 0), ArcOrder.BAD);
        DUE.is("lists(0, 5)", x.lists(0, 5), ArcOrder.BAD);
        DUE.is("sees(5, 0)", x.sees(5, 0), ArcOrder.BAD);
        DUE.is("sees(0, -1)", x.sees(0, -1), ArcOrder.BAD);
    }

    private static void stateIsAheadOfFull() {
        DUE.says("(as told), FULL");
        ArcOrder x = full();
        DUE.is("lists() of one that is there", x.lists(4, 0), ArcOrder.STATE);
        DUE.is("lists() of one that is listed", x.lists(0, 2), ArcOrder.STATE);
        DUE.is("lists() of another", x.lists(3, 0), ArcOrder.FULL);
    }

    private static void stateIsAheadOfRing() {
        DUE.says("the first of these");
        ArcOrder x = Due.of("n4;a0 1;");
        x.lists(1, 0);
        x.lists(3, 2);
        x.puts(3, 2);
        DUE.is("adds()", x.adds(), ArcOrder.STATE);
        DUE.is("lap(-1)", x.lap(-1), 0);
        DUE.is("count(1)", x.count(1), 2);
        // FULL is ahead of RING too: lists() does not ask for rings.
        ArcOrder y = full();
        DUE.is("lists() that would close a ring", y.lists(0, 4), ArcOrder.FULL);
    }

    private static void fiveHundredAndTwelveCalls() {
        DUE.says("An object is used for at most 512 calls after it has been made");
        ArcOrder x = new ArcOrder();
        for (int call = 1; call <= 508; call += 2) {
            DUE.is("call " + call, x.puts(3, 0), call == 1 ? 2 : 0);
            DUE.is("call " + (call + 1), x.cuts(3, 0), 0);
        }
        DUE.is("call 509", x.sorts(), 2);
        DUE.is("call 510", x.now(5), 10);
        DUE.is("call 511", x.undo(), 9);
        DUE.is("call 512", x.at(0), 3);
    }
}
