import java.util.ArrayList;
import java.util.Arrays;
import java.util.HashMap;
import java.util.HashSet;
import java.util.List;
import java.util.Map;
import java.util.Set;
import java.util.TreeSet;
import java.util.regex.Matcher;
import java.util.regex.Pattern;

/**
 * What the document says, done in the slowest and plainest way, with nothing shared with ArcOrder, so that ModelTest
 * can compare both.
 */
final class Model {
    static final int BAD = -1, STATE = -2, FULL = -3, RING = -4, NONE = -9;

    /** Arcs and an order; an arc is a list of its two items. */
    static final class State {
        int items = 4;
        Set<List<Integer>> arcs = new HashSet<>();
        List<Integer> order = new ArrayList<>(List.of(0, 1, 2, 3));

        State copy() {
            State other = new State();
            other.items = items;
            other.arcs = new HashSet<>(arcs);
            other.order = new ArrayList<>(order);
            return other;
        }

        boolean has(int u, int v) {
            return arcs.contains(List.of(u, v));
        }

        /** Items that a chain of arcs joins with u, itself too, all among some. */
        Set<Integer> reach(int u, boolean onward, Set<Integer> among) {
            Set<Integer> found = new TreeSet<>(Set.of(u));
            boolean more = true;
            while (more) {
                more = false;
                for (List<Integer> arc : arcs) {
                    int from = arc.get(onward ? 0 : 1);
                    int to = arc.get(onward ? 1 : 0);
                    if (found.contains(from) && among.contains(to)) {
                        more |= found.add(to);
                    }
                }
            }
            return found;
        }

        Set<Integer> all() {
            return new TreeSet<>(order);
        }

        Set<Integer> span(int u, int v) {
            return new TreeSet<>(order.subList(order.indexOf(v), order.indexOf(u) + 1));
        }

        boolean isAhead(int u, int v) {
            return order.indexOf(u) < order.indexOf(v);
        }

        Set<Integer> after(int u, int v) {
            return isAhead(u, v) ? Set.of() : reach(v, true, span(u, v));
        }

        Set<Integer> before(int u, int v) {
            return isAhead(u, v) ? Set.of() : reach(u, false, span(u, v));
        }

        boolean closes(int u, int v) {
            return reach(v, true, all()).contains(u);
        }

        void put(int u, int v) {
            Set<Integer> before = before(u, v);
            Set<Integer> after = after(u, v);
            List<Integer> row = new ArrayList<>();
            List<Integer> places = new ArrayList<>();
            for (int i : order) {
                if (before.contains(i)) {
                    row.add(i);
                }
            }
            for (int i : order) {
                if (after.contains(i)) {
                    row.add(i);
                }
                if (after.contains(i) || before.contains(i)) {
                    places.add(order.indexOf(i));
                }
            }
            for (int k = 0; k < row.size(); k++) {
                order.set(places.get(k), row.get(k));
            }
            arcs.add(List.of(u, v));
        }

        Set<Integer> unlike(State other) {
            Set<Integer> items = new TreeSet<>();
            for (int i : order) {
                if (order.indexOf(i) != other.order.indexOf(i)) {
                    items.add(i);
                }
            }
            return items;
        }

        Set<Integer> moved(int u, int v) {
            if (closes(u, v)) {
                return Set.of();
            }
            State then = copy();
            then.put(u, v);
            return then.unlike(this);
        }

        /** Arcs that are not there and close no ring, by 16 times the one and the other. */
        List<List<Integer>> possible() {
            List<List<Integer>> found = new ArrayList<>();
            for (int u = 0; u < items; u++) {
                for (int v = 0; v < items; v++) {
                    if (u != v && !has(u, v) && !closes(u, v)) {
                        found.add(List.of(u, v));
                    }
                }
            }
            return found;
        }

        /** All ways from one item to another are tried; the shortest, of these the first, is taken. */
        List<Integer> shortest(List<Integer> way, int end) {
            int last = way.get(way.size() - 1);
            if (last == end) {
                return way;
            }
            List<Integer> best = null;
            for (int next = 0; next < items; next++) {
                if (has(last, next)) {
                    List<Integer> longer = new ArrayList<>(way);
                    longer.add(next);
                    List<Integer> found = shortest(longer, end);
                    if (found != null && (best == null || found.size() < best.size())) {
                        best = found;
                    }
                }
            }
            return best;
        }

        boolean ready(int u, int made) {
            for (List<Integer> arc : arcs) {
                if (arc.get(1) == u && (made >> arc.get(0) & 1) == 0) {
                    return false;
                }
            }
            return (made >> u & 1) == 0;
        }

        /** Sets of items (bits) that can be made with nothing else. */
        Set<Integer> stages() {
            Set<Integer> found = new TreeSet<>(Set.of(0));
            List<Integer> open = new ArrayList<>(found);
            for (int k = 0; k < open.size(); k++) {
                for (int u = 0; u < items; u++) {
                    int more = open.get(k) | 1 << u;
                    if (ready(u, open.get(k)) && found.add(more)) {
                        open.add(more);
                    }
                }
            }
            return found;
        }

        int first(int u) {
            int least = items;
            for (int made : stages()) {
                if (ready(u, made)) {
                    least = Math.min(least, Integer.bitCount(made));
                }
            }
            return least;
        }

        int last(int u) {
            int most = -1;
            for (int made : stages()) {
                if (ready(u, made)) {
                    most = Math.max(most, Integer.bitCount(made));
                }
            }
            return most;
        }

        int chainFrom(int u) {
            int longest = 0;
            for (int v = 0; v < items; v++) {
                if (has(u, v)) {
                    longest = Math.max(longest, chainFrom(v));
                }
            }
            return longest + 1;
        }

        int spare() {
            int spare = 0;
            for (List<Integer> arc : arcs) {
                State without = copy();
                without.arcs.remove(arc);
                if (without.reach(arc.get(0), true, all()).contains(arc.get(1))) {
                    spare++;
                }
            }
            return spare;
        }

        long ordersFrom(int made, Map<Integer, Long> known) {
            if (Integer.bitCount(made) == items) {
                return 1;
            }
            Long before = known.get(made);
            if (before != null) {
                return before;
            }
            long sum = 0;
            for (int u = 0; u < items; u++) {
                if (ready(u, made)) {
                    sum += ordersFrom(made | 1 << u, known);
                }
            }
            known.put(made, sum);
            return sum;
        }

        /** All orders, one behind the other, the least first. */
        void eachOrder(List<Integer> row, int made, List<List<Integer>> found) {
            if (row.size() == items) {
                found.add(new ArrayList<>(row));
                return;
            }
            for (int u = 0; u < items; u++) {
                if (ready(u, made)) {
                    row.add(u);
                    eachOrder(row, made | 1 << u, found);
                    row.remove(row.size() - 1);
                }
            }
        }

        int days(int hands) {
            Set<Integer> made = Set.of(0);
            for (int day = 0; day <= items; day++) {
                if (made.contains((1 << items) - 1)) {
                    return day;
                }
                Set<Integer> next = new HashSet<>();
                for (int some : made) {
                    int ready = allReady(some);
                    for (int pick = ready; pick > 0; pick = (pick - 1) & ready) {
                        if (Integer.bitCount(pick) <= hands) {
                            next.add(some | pick);
                        }
                    }
                }
                made = next;
            }
            throw new IllegalStateException("never");
        }

        private int allReady(int made) {
            int ready = 0;
            for (int u = 0; u < items; u++) {
                ready |= ready(u, made) ? 1 << u : 0;
            }
            return ready;
        }
    }

    State state = new State();
    String text = "";
    List<List<Integer>> list = new ArrayList<>();
    List<State> past = new ArrayList<>();
    List<int[]> seen = new ArrayList<>();
    State[] images = new State[2];
    List<Integer> ring = new ArrayList<>();

    static int bits(Set<Integer> items) {
        int bits = 0;
        for (int i : items) {
            bits |= 1 << i;
        }
        return bits;
    }

    private boolean noItem(int u) {
        return u < 0 || u >= state.items;
    }

    private boolean noPair(int u, int v) {
        return noItem(u) || noItem(v) || u == v;
    }

    private void remember(State before) {
        past.add(before);
        if (past.size() > 10) {
            past.remove(0);
        }
    }

    int type(int letter) {
        if (letter < 0 || letter > 255) {
            return BAD;
        }
        if (text.length() == 120) {
            return FULL;
        }
        text += (char) letter;
        return text.length();
    }

    int clear() {
        int had = text.length();
        text = "";
        return had;
    }

    int store() {
        State told = new State();
        List<String> tokens = new ArrayList<>();
        List<Integer> places = new ArrayList<>();
        Matcher matcher = Pattern.compile("[0-9]+|[^ ]", Pattern.DOTALL).matcher(text);
        while (matcher.find()) {
            tokens.add(matcher.group());
            places.add(matcher.start());
        }
        places.add(text.length());
        int entries = 0;
        List<String> entry = new ArrayList<>();
        for (int k = 0; k < tokens.size(); k++) {
            entry.add(tokens.get(k));
            if (!stands(told, entry, entries)) {
                return -10 - places.get(k);
            }
            if (tokens.get(k).equals(";")) {
                entries++;
                entry.clear();
            }
        }
        if (!entry.isEmpty()) {
            return -10 - text.length();
        }
        state = told;
        text = "";
        list.clear();
        past.clear();
        seen.clear();
        Arrays.fill(images, null);
        return entries;
    }

    /** Whether the last token of an entry that is not whole yet may stand there; what it tells is told then. */
    private static boolean stands(State told, List<String> entry, int entries) {
        String token = entry.get(entry.size() - 1);
        boolean isNumber = token.matches("0|[1-9][0-9]?");
        switch (entry.get(0) + entry.size()) {
            case "n1":
                return entries == 0;
            case "a1":
                return true;
            case "n2":
                if (!isNumber || Integer.parseInt(token) < 1 || Integer.parseInt(token) > 12) {
                    return false;
                }
                told.items = Integer.parseInt(token);
                told.order = new ArrayList<>();
                for (int i = 0; i < told.items; i++) {
                    told.order.add(i);
                }
                return true;
            case "a2":
                return isNumber && Integer.parseInt(token) < told.items;
            case "a3":
                if (!isNumber || Integer.parseInt(token) >= told.items) {
                    return false;
                }
                int u = Integer.parseInt(entry.get(1));
                int v = Integer.parseInt(token);
                if (u == v || told.has(u, v) || told.closes(u, v)) {
                    return false;
                }
                told.put(u, v);
                return true;
            case "n3":
            case "a4":
                return token.equals(";");
            default:
                return false;
        }
    }

    int item(int u, int what) {
        if (noItem(u) || what < 0 || what > 6) {
            return BAD;
        }
        Set<Integer> joined = new TreeSet<>();
        switch (what) {
            case 0:
                return state.order.indexOf(u);
            case 1:
                for (int v = 0; v < state.items; v++) {
                    if (state.has(u, v)) {
                        joined.add(v);
                    }
                }
                return bits(joined);
            case 2:
                for (int v = 0; v < state.items; v++) {
                    if (state.has(v, u)) {
                        joined.add(v);
                    }
                }
                return bits(joined);
            case 3:
                return state.first(u);
            case 4:
                return state.last(u);
            default:
                joined.addAll(state.reach(u, what == 5, state.all()));
                joined.remove(u);
                return bits(joined);
        }
    }

    int at(int place) {
        return noItem(place) ? BAD : state.order.get(place);
    }

    int now(int what) {
        switch (what) {
            case 0:
                return state.arcs.size();
            case 1:
                int free = 0;
                for (List<Integer> arc : state.possible()) {
                    free += state.moved(arc.get(0), arc.get(1)).isEmpty() ? 1 : 0;
                }
                return free;
            case 2:
                return most();
            case 3:
                int longest = 0;
                for (int u = 0; u < state.items; u++) {
                    longest = Math.max(longest, state.chainFrom(u));
                }
                return longest;
            case 4:
                return state.spare();
            case 5:
                return past.size();
            default:
                return BAD;
        }
    }

    private int most() {
        int most = -1;
        int code = NONE;
        for (List<Integer> arc : state.possible()) {
            int moved = state.moved(arc.get(0), arc.get(1)).size();
            if (moved > most) {
                most = moved;
                code = 16 * arc.get(0) + arc.get(1);
            }
        }
        return code;
    }

    int puts(int u, int v) {
        if (noPair(u, v)) {
            return BAD;
        }
        if (state.has(u, v)) {
            return STATE;
        }
        if (state.closes(u, v)) {
            ring = state.shortest(List.of(v), u);
            return RING;
        }
        State before = state.copy();
        state.put(u, v);
        remember(before);
        return state.unlike(before).size();
    }

    int lists(int u, int v) {
        if (noPair(u, v)) {
            return BAD;
        }
        if (state.has(u, v) || list.contains(List.of(u, v))) {
            return STATE;
        }
        if (list.size() == 8) {
            return FULL;
        }
        list.add(List.of(u, v));
        return list.size();
    }

    int adds() {
        if (list.isEmpty()) {
            return STATE;
        }
        for (List<Integer> arc : list) {
            if (state.arcs.contains(arc)) {
                return STATE;
            }
        }
        State then = state.copy();
        for (List<Integer> arc : list) {
            if (then.closes(arc.get(0), arc.get(1))) {
                ring = then.shortest(List.of(arc.get(1)), arc.get(0));
                list.clear();
                return RING;
            }
            then.put(arc.get(0), arc.get(1));
        }
        list.clear();
        remember(state);
        int unlike = then.unlike(state).size();
        state = then;
        return unlike;
    }

    int cuts(int u, int v) {
        if (noPair(u, v)) {
            return BAD;
        }
        if (!state.has(u, v)) {
            return STATE;
        }
        remember(state.copy());
        state.arcs.remove(List.of(u, v));
        return state.arcs.size();
    }

    int sorts() {
        State before = state.copy();
        List<Integer> row = new ArrayList<>();
        int made = 0;
        while (row.size() < state.items) {
            int u = 0;
            while (!state.ready(u, made)) {
                u++;
            }
            row.add(u);
            made |= 1 << u;
        }
        state.order = row;
        remember(before);
        return state.unlike(before).size();
    }

    int undo() {
        if (past.isEmpty()) {
            return STATE;
        }
        state = past.remove(past.size() - 1);
        return past.size();
    }

    int lap(int k) {
        if (k < -1) {
            return BAD;
        }
        return k == -1 ? ring.size() : k < ring.size() ? ring.get(k) : NONE;
    }

    int arc(int u, int v, int what) {
        if (noPair(u, v) || what < 0 || what > 3) {
            return BAD;
        }
        if (state.has(u, v)) {
            return STATE;
        }
        switch (what) {
            case 0:
                return bits(state.moved(u, v));
            case 1:
                return state.closes(u, v) ? 1 : 0;
            case 2:
                return bits(state.before(u, v));
            default:
                return bits(state.after(u, v));
        }
    }

    long orders() {
        return state.ordersFrom(0, new HashMap<>());
    }

    private List<List<Integer>> allOrders() {
        List<List<Integer>> found = new ArrayList<>();
        state.eachOrder(new ArrayList<>(), 0, found);
        return found;
    }

    /** Whether number() and kth() end soon. */
    boolean canTellOrders() {
        return orders() <= 2000;
    }

    /** Whether days() ends soon. */
    boolean canTellDays() {
        return state.stages().size() <= 600;
    }

    long number() {
        return allOrders().indexOf(state.order);
    }

    int kth(long k, int place) {
        if (noItem(place) || k < 0) {
            return BAD;
        }
        List<List<Integer>> found = allOrders();
        return k >= found.size() ? NONE : found.get((int) k).get(place);
    }

    int days(int hands) {
        return hands < 1 || hands > 3 ? BAD : state.days(hands);
    }

    int sees(int u, int moved) {
        if (noItem(u) || moved < 0 || moved > 1) {
            return BAD;
        }
        if (seen.size() == 6) {
            return FULL;
        }
        seen.add(new int[] {u, moved});
        return seen.size();
    }

    int forget() {
        int had = seen.size();
        seen.clear();
        return had;
    }

    private List<List<Integer>> fitting() {
        List<List<Integer>> found = new ArrayList<>();
        for (List<Integer> arc : state.possible()) {
            Set<Integer> moved = state.moved(arc.get(0), arc.get(1));
            boolean fits = true;
            for (int[] one : seen) {
                fits &= moved.contains(one[0]) == (one[1] == 1);
            }
            if (fits) {
                found.add(arc);
            }
        }
        return found;
    }

    int unseen(int what) {
        if (what < 0 || what > 1) {
            return BAD;
        }
        List<List<Integer>> found = fitting();
        if (what == 0) {
            return found.size();
        }
        return found.isEmpty() ? NONE : 16 * found.get(0).get(0) + found.get(0).get(1);
    }

    int look() {
        List<List<Integer>> found = fitting();
        if (found.size() <= 1) {
            return NONE;
        }
        int best = NONE;
        int smallest = Integer.MAX_VALUE;
        for (int u = 0; u < state.items; u++) {
            int moved = 0;
            for (List<Integer> arc : found) {
                moved += state.moved(arc.get(0), arc.get(1)).contains(u) ? 1 : 0;
            }
            int greater = Math.max(moved, found.size() - moved);
            if (greater < smallest) {
                smallest = greater;
                best = u;
            }
        }
        return best;
    }

    int keep(int image) {
        if (image < 0 || image > 1) {
            return BAD;
        }
        images[image] = state.copy();
        return state.arcs.size();
    }

    int back(int image) {
        if (image < 0 || image > 1) {
            return BAD;
        }
        if (images[image] == null) {
            return STATE;
        }
        state = images[image].copy();
        past.clear();
        return state.arcs.size();
    }

    int count(int what) {
        switch (what) {
            case 0:
                return state.items;
            case 1:
                return list.size();
            case 2:
                return seen.size();
            case 3:
                return text.length();
            default:
                return BAD;
        }
    }
}
