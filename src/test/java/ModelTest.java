import java.util.Random;

/** Long rows of calls, the same ones each time, on ArcOrder and on Model: every answer must be alike. */
public final class ModelTest {
    private static final Due DUE = new Due("ModelTest");
    /** The document promises 512 calls; a text, the longest step, makes 122. */
    private static final int LAST_STEP = 512 - 122;

    private final Random random;
    private final ArcOrder x = new ArcOrder();
    private final Model m = new Model();
    private final String run;
    /** Some runs put many arcs, others few. */
    private final boolean isDense;
    private int calls;

    private ModelTest(int seed) {
        random = new Random(seed);
        run = "run " + seed + ": ";
        isDense = random.nextBoolean();
    }

    public static void main(String[] args) {
        int runs = args.length > 0 ? Integer.parseInt(args[0]) : 500;
        for (int seed = 1; seed <= runs && !DUE.isWrong(); seed++) {
            new ModelTest(seed).go();
        }
        DUE.end();
    }

    private void go() {
        if (random.nextInt(4) > 0) {
            tell();
        }
        while (calls <= LAST_STEP && !DUE.isWrong()) {
            if (random.nextInt(100) < 4) {
                tell();
            } else {
                change();
            }
        }
    }

    /** Mostly an item, at times one beyond. */
    private int u() {
        int items = m.state.items;
        return random.nextInt(40) == 0 ? random.nextInt(2) * (items + 1) - 1 : random.nextInt(items);
    }

    private int below(int bound) {
        return random.nextInt(30) == 0 ? random.nextInt(2) * (bound + 1) - 1 : random.nextInt(bound);
    }

    private void tell() {
        String text = text();
        is("clear()", x.clear(), m.clear());
        for (int i = 0; i < text.length(); i++) {
            is("type()", x.type(text.charAt(i)), m.type(text.charAt(i)));
        }
        is("store() of '" + text + "'", x.store(), m.store());
    }

    private String text() {
        StringBuilder text = new StringBuilder();
        int items = 4;
        if (random.nextInt(5) > 0) {
            items = 1 + random.nextInt(12);
            text.append('n').append(blank(0)).append(items).append(blank(0)).append(';');
        }
        int arcs = random.nextInt(isDense ? 16 : 5);
        int[] hidden = new int[items];
        for (int i = 0; i < items; i++) {
            hidden[i] = random.nextInt(100);
        }
        for (int i = 0; i < arcs && items > 1; i++) {
            int u = random.nextInt(items);
            int v = random.nextInt(items);
            boolean turn = random.nextInt(30) > 0 && hidden[u] > hidden[v];
            text.append(blank(0)).append('a').append(blank(0)).append(turn ? v : u).append(blank(1));
            text.append(turn ? u : v).append(blank(0)).append(';');
        }
        if (random.nextInt(3) == 0 && text.length() > 0) {
            int where = random.nextInt(text.length());
            if (random.nextBoolean()) {
                text.setCharAt(where, "na;0159x ".charAt(random.nextInt(9)));
            } else {
                text.setLength(where);
            }
        }
        if (text.length() > 120) {
            text.setLength(120);
        }
        return text.toString();
    }

    private String blank(int least) {
        return " ".repeat(least + (random.nextInt(12) == 0 ? 1 : 0));
    }

    private void change() {
        int u = u();
        int v = u();
        switch (random.nextInt(26)) {
            case 0: case 1: case 2:
                is("puts(" + u + ", " + v + ")", x.puts(u, v), m.puts(u, v));
                break;
            case 3: case 4:
                is("lists(" + u + ", " + v + ")", x.lists(u, v), m.lists(u, v));
                break;
            case 5:
                is("adds()", x.adds(), m.adds());
                break;
            case 6:
                is("cuts(" + u + ", " + v + ")", x.cuts(u, v), m.cuts(u, v));
                break;
            case 7:
                is("sorts()", x.sorts(), m.sorts());
                break;
            case 8:
                if (random.nextInt(isDense ? 4 : 1) == 0) {
                    is("undo()", x.undo(), m.undo());
                }
                break;
            default:
                ask(u, v);
        }
        if (random.nextInt(20) == 0) {
            whole();
        }
    }

    private void ask(int u, int v) {
        int k = below(7);
        switch (random.nextInt(17)) {
            case 0:
                is("item(" + u + ", " + k + ")", x.item(u, k), m.item(u, k));
                break;
            case 1:
                is("at(" + u + ")", x.at(u), m.at(u));
                break;
            case 2: case 3:
                is("now(" + k + ")", x.now(k), m.now(k));
                break;
            case 4:
                is("lap(" + (u - 2) + ")", x.lap(u - 2), m.lap(u - 2));
                break;
            case 5: case 6:
                int what = below(4);
                is("arc(" + u + ", " + v + ", " + what + ")", x.arc(u, v, what), m.arc(u, v, what));
                break;
            case 7:
                is("orders()", x.orders(), m.orders());
                break;
            case 8: case 9:
                askOrders(u);
                break;
            case 10:
                int hands = 1 + below(3);
                if (m.canTellDays()) {
                    is("days(" + hands + ")", x.days(hands), m.days(hands));
                }
                break;
            case 11:
                int moved = below(2);
                is("sees(" + u + ", " + moved + ")", x.sees(u, moved), m.sees(u, moved));
                break;
            case 12:
                is("forget()", x.forget(), m.forget());
                break;
            case 13:
                int which = below(2);
                is("unseen(" + which + ")", x.unseen(which), m.unseen(which));
                break;
            case 14:
                is("look()", x.look(), m.look());
                break;
            case 15:
                int image = below(2);
                is("keep(" + image + ")", x.keep(image), m.keep(image));
                break;
            default:
                int from = below(2);
                is("back(" + from + ")", x.back(from), m.back(from));
        }
    }

    private void askOrders(int place) {
        if (m.canTellOrders()) {
            long k = (long) (m.orders() * 1.2 * random.nextDouble()) - random.nextInt(2);
            is("number()", x.number(), m.number());
            is("kth(" + k + ", " + place + ")", x.kth(k, place), m.kth(k, place));
        } else {
            is("kth(number())", Due.kth(x, x.number()), Due.order(x));
        }
    }

    /** Order, arcs and counts. */
    private void whole() {
        for (int u = 0; u < m.state.items; u++) {
            is("at(" + u + ")", x.at(u), m.at(u));
            is("item(" + u + ", 1)", x.item(u, 1), m.item(u, 1));
            is("item(" + u + ", 2)", x.item(u, 2), m.item(u, 2));
            is("item(" + u + ", 0)", x.item(u, 0), m.item(u, 0));
        }
        for (int what = 0; what < 4; what++) {
            is("count(" + what + ")", x.count(what), m.count(what));
        }
        for (int k = -1; k <= m.lap(-1); k++) {
            is("lap(" + k + ")", x.lap(k), m.lap(k));
        }
        is("now(5)", x.now(5), m.now(5));
    }

    private void is(String call, long got, long want) {
        calls++;
        DUE.is(run + call, got, want);
    }

    private void is(String call, String got, String want) {
        calls += 2 * m.state.items + 3;
        DUE.is(run + call, got, want);
    }
}
