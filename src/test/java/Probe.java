import java.util.function.Supplier;

/** Everything that calls can tell of an object, as one text, so that two objects can be compared. */
final class Probe {
    private Probe() {
    }

    /** What changing calls change, but for what only other changes would show. */
    static String light(ArcOrder x) {
        StringBuilder all = new StringBuilder("order " + Due.order(x) + " arcs " + Due.arcs(x) + " counts");
        for (int what = 0; what < 4; what++) {
            all.append(' ').append(x.count(what));
        }
        return all.append(" undone ").append(x.now(5)).toString();
    }

    static String ring(ArcOrder x) {
        StringBuilder all = new StringBuilder("ring");
        for (int k = -1; k <= 12; k++) {
            all.append(' ').append(x.lap(k));
        }
        return all.toString();
    }

    /** Every ask, but for lap(): some 200 calls with five items. */
    static String asks(ArcOrder x) {
        int n = x.count(0);
        StringBuilder all = new StringBuilder(light(x));
        for (int u = 0; u < n; u++) {
            all.append("\n item ").append(u).append(':');
            for (int what = 0; what <= 6; what++) {
                all.append(' ').append(x.item(u, what));
            }
            for (int v = 0; v < n; v++) {
                all.append(" arc ").append(v).append(':');
                for (int what = 0; what < 4; what++) {
                    all.append(' ').append(x.arc(u, v, what));
                }
            }
        }
        all.append("\n now");
        for (int what = 0; what <= 5; what++) {
            all.append(' ').append(x.now(what));
        }
        all.append(" orders ").append(x.orders()).append(" number ").append(x.number());
        all.append(" kth ").append(Due.kth(x, 1)).append(" days ").append(x.days(1)).append(' ').append(x.days(2));
        all.append(' ').append(x.days(3)).append(" unseen ").append(x.unseen(0)).append(' ').append(x.unseen(1));
        return all.append(" look ").append(x.look()).toString();
    }

    /** What can be undone, step by step. */
    private static String undone(ArcOrder x) {
        StringBuilder all = new StringBuilder("undone");
        for (int i = 0; i < 11; i++) {
            all.append("\n ").append(x.undo()).append(" order ").append(Due.order(x)).append(" arcs ");
            all.append(x.now(0));
        }
        return all.append(' ').append(Due.arcs(x)).toString();
    }

    private static String back(ArcOrder x, int image) {
        return "image " + image + ": " + x.back(image) + " " + light(x);
    }

    private static String added(ArcOrder x) {
        return "added " + x.adds() + " " + light(x);
    }

    private static String stored(ArcOrder x) {
        return "stored " + x.store() + " " + light(x);
    }

    /**
     * All that there is to know of objects that are made alike, also what shows only by a change: a new object is made
     * for each change. The ring is left out.
     */
    static String deep(Supplier<ArcOrder> made) {
        return asks(made.get()) + "\n" + undone(made.get()) + "\n" + back(made.get(), 0) + "\n" + back(made.get(), 1)
            + "\n" + added(made.get()) + "\n" + stored(made.get());
    }
}
