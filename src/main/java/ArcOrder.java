import java.util.Arrays;

/**
 * A store of what must be made ahead of what, that keeps an order in which all can be made.
 * The document (../shared/DOC.md) says what each call answers.
 */
public final class ArcOrder {
    public static final int BAD = -1, STATE = -2, FULL = -3, RING = -4, NONE = -9;

    private static final int MOST_ITEMS = 12;
    private static final int ITEMS_AT_FIRST = 4;
    private static final int MOST_LETTERS = 120;
    private static final int MOST_LISTED = 8;
    private static final int MOST_UNDONE = 10;
    private static final int MOST_SEEN = 6;
    private static final int MOST_HANDS = 3;
    private static final int MOST_IMAGES = 2;

    private final Net net = new Net();
    /** Holds what a text tells until it is known to be right, and how things were ahead of adds() and sorts(). */
    private final Net aside = new Net();
    private final Text text = new Text();
    private final ArcList list = new ArcList();
    private final Past past = new Past();
    private final Lap ring = new Lap();
    private final Sight sight = new Sight();
    private final Tally tally = new Tally();
    private final Calendar calendar = new Calendar();
    private final Net[] images = new Net[MOST_IMAGES];
    private final boolean[] imageKept = new boolean[MOST_IMAGES];

    public ArcOrder() {
        for (int i = 0; i < MOST_IMAGES; i++) {
            images[i] = new Net();
        }
    }

    // ---- the store

    public int type(int letter) {
        if (letter < 0 || letter > 255) {
            return BAD;
        }
        return text.append(letter) ? text.length : FULL;
    }

    public int clear() {
        int had = text.length;
        text.length = 0;
        return had;
    }

    public int store() {
        int entries = text.readInto(aside);
        if (entries < 0) {
            return entries;
        }
        net.copyOf(aside);
        text.length = 0;
        list.size = 0;
        past.size = 0;
        sight.empty();
        for (int i = 0; i < MOST_IMAGES; i++) {
            imageKept[i] = false;
        }
        return entries;
    }

    public int item(int u, int what) {
        if (!net.isItem(u)) {
            return BAD;
        }
        switch (what) {
            case 0:
                return net.place[u];
            case 1:
                return net.out[u];
            case 2:
                return net.in[u];
            case 3:
                return Integer.bitCount(net.allAheadOf(u));
            case 4:
                return net.items - 1 - Integer.bitCount(net.allBehind(u));
            case 5:
                return net.allBehind(u);
            case 6:
                return net.allAheadOf(u);
            default:
                return BAD;
        }
    }

    public int at(int place) {
        return net.isItem(place) ? net.order[place] : BAD;
    }

    public int now(int what) {
        switch (what) {
            case 0:
                return net.arcs;
            case 1:
                return freeArcs();
            case 2:
                return arcMovingMost();
            case 3:
                return net.longestChain();
            case 4:
                return spareArcs();
            case 5:
                return past.size;
            default:
                return BAD;
        }
    }

    // ---- what is done

    public int puts(int u, int v) {
        if (!net.isPair(u, v)) {
            return BAD;
        }
        if (net.has(u, v)) {
            return STATE;
        }
        if (net.closesRing(u, v)) {
            ring.trace(net, u, v);
            return RING;
        }
        past.push(net);
        return net.put(u, v);
    }

    public int lists(int u, int v) {
        if (!net.isPair(u, v)) {
            return BAD;
        }
        if (net.has(u, v) || list.holds(u, v)) {
            return STATE;
        }
        return list.append(u, v) ? list.size : FULL;
    }

    public int adds() {
        if (list.size == 0 || list.isAnyIn(net)) {
            return STATE;
        }
        aside.copyOf(net);
        boolean allPut = putListed();
        list.size = 0;
        if (!allPut) {
            net.copyOf(aside);
            return RING;
        }
        past.push(aside);
        return net.placesUnlike(aside);
    }

    public int cuts(int u, int v) {
        if (!net.isPair(u, v)) {
            return BAD;
        }
        if (!net.has(u, v)) {
            return STATE;
        }
        past.push(net);
        net.part(u, v);
        return net.arcs;
    }

    public int sorts() {
        past.push(net);
        aside.copyOf(net);
        net.sort();
        return net.placesUnlike(aside);
    }

    public int undo() {
        return past.pop(net) ? past.size : STATE;
    }

    public int lap(int k) {
        if (k < -1) {
            return BAD;
        }
        if (k == -1) {
            return ring.length;
        }
        return k < ring.length ? ring.items[k] : NONE;
    }

    // ---- arcs

    public int arc(int u, int v, int what) {
        if (!net.isPair(u, v) || what < 0 || what > 3) {
            return BAD;
        }
        if (net.has(u, v)) {
            return STATE;
        }
        switch (what) {
            case 0:
                return net.movedBy(u, v);
            case 1:
                return net.closesRing(u, v) ? 1 : 0;
            case 2:
                return net.before(u, v);
            default:
                return net.after(u, v);
        }
    }

    // ---- orders

    public long orders() {
        return tally.all(net);
    }

    public long number() {
        return tally.rank(net);
    }

    public int kth(long k, int place) {
        if (!net.isItem(place) || k < 0) {
            return BAD;
        }
        return tally.itemOf(net, k, place);
    }

    public int days(int hands) {
        if (hands < 1 || hands > MOST_HANDS) {
            return BAD;
        }
        return calendar.fewestDays(net, hands);
    }

    // ---- which arc it was

    public int sees(int u, int moved) {
        if (!net.isItem(u) || moved < 0 || moved > 1) {
            return BAD;
        }
        return sight.append(u, moved) ? sight.size : FULL;
    }

    public int forget() {
        int had = sight.size;
        sight.empty();
        return had;
    }

    public int unseen(int what) {
        if (what < 0 || what > 1) {
            return BAD;
        }
        sight.weigh(net);
        return what == 0 ? sight.fitting : sight.first;
    }

    public int look() {
        sight.weigh(net);
        return sight.bestItem(net);
    }

    // ---- images

    public int keep(int image) {
        if (image < 0 || image >= MOST_IMAGES) {
            return BAD;
        }
        images[image].copyOf(net);
        imageKept[image] = true;
        return net.arcs;
    }

    public int back(int image) {
        if (image < 0 || image >= MOST_IMAGES) {
            return BAD;
        }
        if (!imageKept[image]) {
            return STATE;
        }
        net.copyOf(images[image]);
        past.size = 0;
        return net.arcs;
    }

    public int count(int what) {
        switch (what) {
            case 0:
                return net.items;
            case 1:
                return list.size;
            case 2:
                return sight.size;
            case 3:
                return text.length;
            default:
                return BAD;
        }
    }

    // ---- helpers

    /** Puts the listed arcs up to the first that would close a ring, which is traced; whether all were put. */
    private boolean putListed() {
        for (int i = 0; i < list.size; i++) {
            int u = list.from[i];
            int v = list.to[i];
            if (net.closesRing(u, v)) {
                ring.trace(net, u, v);
                return false;
            }
            net.put(u, v);
        }
        return true;
    }

    private int freeArcs() {
        int free = 0;
        for (int u = 0; u < net.items; u++) {
            for (int v = 0; v < net.items; v++) {
                if (net.canTake(u, v) && net.movedBy(u, v) == 0) {
                    free++;
                }
            }
        }
        return free;
    }

    private int arcMovingMost() {
        int best = NONE;
        int most = -1;
        for (int u = 0; u < net.items; u++) {
            for (int v = 0; v < net.items; v++) {
                if (!net.canTake(u, v)) {
                    continue;
                }
                int moved = Integer.bitCount(net.movedBy(u, v));
                if (moved > most) {
                    most = moved;
                    best = codeOf(u, v);
                }
            }
        }
        return best;
    }

    private int spareArcs() {
        int spare = 0;
        for (int u = 0; u < net.items; u++) {
            int behind = net.allBehind(u);
            for (int v = 0; v < net.items; v++) {
                if (net.has(u, v) && (net.in[v] & behind) != 0) {
                    spare++;
                }
            }
        }
        return spare;
    }

    private static int codeOf(int u, int v) {
        return 16 * u + v;
    }

    private static boolean holdsBit(int bits, int u) {
        return (bits >> u & 1) != 0;
    }

    /** Items, the arcs among them, and an order that goes with all of these arcs. */
    private static final class Net {
        int items;
        int arcs;
        /** To which items arcs lead from each (bits). */
        final int[] out = new int[MOST_ITEMS];
        /** From which items arcs lead to each (bits). */
        final int[] in = new int[MOST_ITEMS];
        final int[] order = new int[MOST_ITEMS];
        final int[] place = new int[MOST_ITEMS];
        /** Items on their way to new places. */
        private final int[] movers = new int[MOST_ITEMS];

        Net() {
            begin(ITEMS_AT_FIRST);
        }

        void begin(int howMany) {
            items = howMany;
            arcs = 0;
            for (int i = 0; i < MOST_ITEMS; i++) {
                out[i] = 0;
                in[i] = 0;
                order[i] = i;
                place[i] = i;
            }
        }

        void copyOf(Net other) {
            items = other.items;
            arcs = other.arcs;
            System.arraycopy(other.out, 0, out, 0, MOST_ITEMS);
            System.arraycopy(other.in, 0, in, 0, MOST_ITEMS);
            System.arraycopy(other.order, 0, order, 0, MOST_ITEMS);
            System.arraycopy(other.place, 0, place, 0, MOST_ITEMS);
        }

        boolean isItem(int u) {
            return u >= 0 && u < items;
        }

        boolean isPair(int u, int v) {
            return isItem(u) && isItem(v) && u != v;
        }

        boolean has(int u, int v) {
            return holdsBit(out[u], v);
        }

        /** Whether there could be this arc, and is not. */
        boolean canTake(int u, int v) {
            return isPair(u, v) && !has(u, v) && !closesRing(u, v);
        }

        int everyItem() {
            return (1 << items) - 1;
        }

        /** An item and all behind it by arcs, up to a place; one sweep is enough, since no arc goes against the order. */
        private int sweepOn(int u, int lastPlace) {
            int found = 1 << u;
            for (int p = place[u] + 1; p <= lastPlace; p++) {
                int i = order[p];
                if ((in[i] & found) != 0) {
                    found |= 1 << i;
                }
            }
            return found;
        }

        /** An item and all ahead of it by arcs, down to a place. */
        private int sweepBack(int u, int firstPlace) {
            int found = 1 << u;
            for (int p = place[u] - 1; p >= firstPlace; p--) {
                int i = order[p];
                if ((out[i] & found) != 0) {
                    found |= 1 << i;
                }
            }
            return found;
        }

        int allBehind(int u) {
            return sweepOn(u, items - 1) & ~(1 << u);
        }

        int allAheadOf(int u) {
            return sweepBack(u, 0) & ~(1 << u);
        }

        int after(int u, int v) {
            return place[u] < place[v] ? 0 : sweepOn(v, place[u]);
        }

        int before(int u, int v) {
            return place[u] < place[v] ? 0 : sweepBack(u, place[v]);
        }

        boolean closesRing(int u, int v) {
            return place[u] > place[v] && holdsBit(sweepOn(v, place[u]), u);
        }

        int movedBy(int u, int v) {
            // Every item of both moves: V, the first, lets BEFORE pass, and U, the last, comes ahead of AFTER.
            return closesRing(u, v) ? 0 : before(u, v) | after(u, v);
        }

        /** Puts an arc, unless it would close a ring: how many items moved. */
        int put(int u, int v) {
            if (closesRing(u, v)) {
                return RING;
            }
            int before = before(u, v);
            int after = after(u, v);
            rearrange(before, after);
            out[u] |= 1 << v;
            in[v] |= 1 << u;
            arcs++;
            return Integer.bitCount(before | after);
        }

        void part(int u, int v) {
            out[u] &= ~(1 << v);
            in[v] &= ~(1 << u);
            arcs--;
        }

        /** The items of both come to the places that they had, the former ones first; all others stay. */
        private void rearrange(int before, int after) {
            gather(after, gather(before, 0));
            int taken = 0;
            for (int p = 0; p < items; p++) {
                if (holdsBit(before | after, order[p])) {
                    stand(movers[taken], p);
                    taken++;
                }
            }
        }

        /** Writes items, as they stand, behind those that the row of movers has: how many it has then. */
        private int gather(int bits, int had) {
            int filled = had;
            for (int p = 0; p < items; p++) {
                if (holdsBit(bits, order[p]) && filled < MOST_ITEMS) {
                    movers[filled] = order[p];
                    filled++;
                }
            }
            return filled;
        }

        private void stand(int u, int where) {
            order[where] = u;
            place[u] = where;
        }

        boolean isReady(int u, int made) {
            return !holdsBit(made, u) && (in[u] & ~made) == 0;
        }

        int allReady(int made) {
            int ready = 0;
            for (int u = 0; u < items; u++) {
                if (isReady(u, made)) {
                    ready |= 1 << u;
                }
            }
            return ready;
        }

        /** The order becomes the least of all that go with the arcs. */
        void sort() {
            int made = 0;
            for (int p = 0; p < items; p++) {
                for (int u = 0; u < items; u++) {
                    if (isReady(u, made)) {
                        stand(u, p);
                        made |= 1 << u;
                        break;
                    }
                }
            }
        }

        int longestChain() {
            // What is ready is taken in layers: each layer lengthens the longest chain by one.
            int made = 0;
            int layers = 0;
            for (int i = 0; i < items && made != everyItem(); i++) {
                made |= allReady(made);
                layers++;
            }
            return layers;
        }

        int placesUnlike(Net other) {
            int unlike = 0;
            for (int u = 0; u < items; u++) {
                if (place[u] != other.place[u]) {
                    unlike++;
                }
            }
            return unlike;
        }

        boolean hasArcsOf(Net other) {
            if (items != other.items) {
                return false;
            }
            for (int u = 0; u < items; u++) {
                if (out[u] != other.out[u]) {
                    return false;
                }
            }
            return true;
        }
    }

    /** The letters that were typed, and how entries are read from them. */
    private static final class Text {
        private static final int FAULT_AT_0 = -10;
        private static final int MOST_NUMBER = 99;
        private static final char END = 'e', WRONG = 'w', DIGITS = 'd';

        int length;
        private final int[] letters = new int[MOST_LETTERS];
        /** The token that was read last: n, a, ; itself, or END, WRONG, DIGITS. */
        private char token;
        private int tokenStart;
        private int tokenEnd;
        private int value;

        boolean append(int letter) {
            if (length >= MOST_LETTERS) {
                return false;
            }
            letters[length] = letter;
            length++;
            return true;
        }

        /** How many entries were read into a net; FAULT_AT_0 less the fault's place, if there is one. */
        int readInto(Net told) {
            told.begin(ITEMS_AT_FIRST);
            tokenEnd = 0;
            int entries = 0;
            for (int i = 0; i <= MOST_LETTERS; i++) {
                nextToken();
                if (token == END) {
                    break;
                }
                if (!readEntry(told, entries == 0)) {
                    return FAULT_AT_0 - tokenStart;
                }
                entries++;
            }
            return entries;
        }

        /** Reads on from an entry's first token; whether all stood as it may, else the last token is the fault. */
        private boolean readEntry(Net told, boolean isFirst) {
            boolean stands = false;
            if (token == 'n') {
                stands = isFirst && readItems(told);
            } else if (token == 'a') {
                stands = readArc(told);
            }
            if (!stands) {
                return false;
            }
            nextToken();
            return token == ';';
        }

        private boolean readItems(Net told) {
            if (!readNumber(1, MOST_ITEMS)) {
                return false;
            }
            told.begin(value);
            return true;
        }

        private boolean readArc(Net told) {
            if (!readNumber(0, told.items - 1)) {
                return false;
            }
            int u = value;
            if (!readNumber(0, told.items - 1) || !told.canTake(u, value)) {
                return false;
            }
            told.put(u, value);
            return true;
        }

        private boolean readNumber(int least, int most) {
            nextToken();
            return token == DIGITS && value >= least && value <= most;
        }

        private void nextToken() {
            tokenStart = tokenEnd;
            while (tokenStart < length && letters[tokenStart] == ' ') {
                tokenStart++;
            }
            tokenEnd = tokenStart;
            if (tokenStart >= length) {
                token = END;
            } else if (isDigit(tokenStart)) {
                readDigits();
            } else {
                int letter = letters[tokenStart];
                boolean isKnown = letter == 'n' || letter == 'a' || letter == ';';
                token = isKnown ? (char) letter : WRONG;
                tokenEnd++;
            }
        }

        private void readDigits() {
            value = 0;
            while (tokenEnd < length && isDigit(tokenEnd)) {
                // Held just above what may be, so that no row of digits is too long to count.
                value = Math.min(10 * value + letters[tokenEnd] - '0', MOST_NUMBER + 1);
                tokenEnd++;
            }
            boolean leadsWith0 = letters[tokenStart] == '0' && tokenEnd > tokenStart + 1;
            token = leadsWith0 || value > MOST_NUMBER ? WRONG : DIGITS;
        }

        private boolean isDigit(int where) {
            return letters[where] >= '0' && letters[where] <= '9';
        }
    }

    /** THE LIST of arcs that adds() puts. */
    private static final class ArcList {
        int size;
        final int[] from = new int[MOST_LISTED];
        final int[] to = new int[MOST_LISTED];

        boolean append(int u, int v) {
            if (size >= MOST_LISTED) {
                return false;
            }
            from[size] = u;
            to[size] = v;
            size++;
            return true;
        }

        boolean holds(int u, int v) {
            for (int i = 0; i < size; i++) {
                if (from[i] == u && to[i] == v) {
                    return true;
                }
            }
            return false;
        }

        boolean isAnyIn(Net net) {
            for (int i = 0; i < size; i++) {
                if (net.has(from[i], to[i])) {
                    return true;
                }
            }
            return false;
        }
    }

    /** How things were ahead of what was done, the latest last. */
    private static final class Past {
        int size;
        private final Net[] nets = new Net[MOST_UNDONE];

        Past() {
            for (int i = 0; i < MOST_UNDONE; i++) {
                nets[i] = new Net();
            }
        }

        void push(Net net) {
            if (size >= MOST_UNDONE) {
                loseOldest();
            }
            nets[size].copyOf(net);
            size++;
        }

        boolean pop(Net net) {
            if (size == 0) {
                return false;
            }
            size--;
            net.copyOf(nets[size]);
            return true;
        }

        /** The oldest net's room is used again for the latest. */
        private void loseOldest() {
            Net oldest = nets[0];
            for (int i = 1; i < MOST_UNDONE; i++) {
                nets[i - 1] = nets[i];
            }
            nets[MOST_UNDONE - 1] = oldest;
            size = MOST_UNDONE - 1;
        }
    }

    /** The ring that was refused last. */
    private static final class Lap {
        int length;
        final int[] items = new int[MOST_ITEMS];
        /** How many arcs lead from an item to the ring's end, at the fewest. */
        private final int[] steps = new int[MOST_ITEMS];

        /** Takes the shortest way from V to U, of several the first. */
        void trace(Net net, int u, int v) {
            measure(net, u);
            int reached = v;
            items[0] = v;
            length = 1;
            for (int left = steps[v]; left > 0 && length < MOST_ITEMS; left--) {
                reached = lowestNext(net, reached, left - 1);
                items[length] = reached;
                length++;
            }
        }

        private void measure(Net net, int u) {
            Arrays.fill(steps, MOST_ITEMS);
            steps[u] = 0;
            for (int p = net.place[u] - 1; p >= 0; p--) {
                int i = net.order[p];
                for (int j = 0; j < net.items; j++) {
                    if (net.has(i, j)) {
                        steps[i] = Math.min(steps[i], steps[j] + 1);
                    }
                }
            }
        }

        private int lowestNext(Net net, int from, int stepsLeft) {
            for (int j = 0; j < net.items; j++) {
                if (net.has(from, j) && steps[j] == stepsLeft) {
                    return j;
                }
            }
            return from;
        }
    }

    /** What was seen of one unknown arc, and the arcs that it could be. */
    private static final class Sight {
        int size;
        int fitting;
        int first;
        private int mustMove;
        private int mustStay;
        /** How many of the arcs that it could be move each item. */
        private final int[] movers = new int[MOST_ITEMS];

        void empty() {
            size = 0;
            mustMove = 0;
            mustStay = 0;
        }

        boolean append(int u, int moved) {
            if (size >= MOST_SEEN) {
                return false;
            }
            if (moved == 1) {
                mustMove |= 1 << u;
            } else {
                mustStay |= 1 << u;
            }
            size++;
            return true;
        }

        void weigh(Net net) {
            fitting = 0;
            first = NONE;
            Arrays.fill(movers, 0);
            for (int u = 0; u < net.items; u++) {
                for (int v = 0; v < net.items; v++) {
                    if (net.canTake(u, v)) {
                        takeIfFits(codeOf(u, v), net.movedBy(u, v));
                    }
                }
            }
        }

        private void takeIfFits(int code, int moved) {
            if ((mustMove & ~moved) != 0 || (mustStay & moved) != 0) {
                return;
            }
            if (first == NONE) {
                first = code;
            }
            fitting++;
            for (int i = 0; i < MOST_ITEMS; i++) {
                movers[i] += moved >> i & 1;
            }
        }

        int bestItem(Net net) {
            if (fitting <= 1) {
                return NONE;
            }
            int best = NONE;
            int smallest = fitting + 1;
            for (int i = 0; i < net.items; i++) {
                int greater = Math.max(movers[i], fitting - movers[i]);
                if (greater < smallest) {
                    smallest = greater;
                    best = i;
                }
            }
            return best;
        }
    }

    /** Counts the orders that go with the arcs. */
    private static final class Tally {
        /** In how many orders the rest can follow, once the items of the index (bits) are made. */
        private final long[] ways = new long[1 << MOST_ITEMS];
        /** The arcs for which this was counted: many calls ask about the same ones. */
        private final Net counted = new Net();
        private boolean isCounted;

        private void prepare(Net net) {
            if (isCounted && counted.hasArcsOf(net)) {
                return;
            }
            int every = net.everyItem();
            ways[every] = 1;
            for (int made = every - 1; made >= 0; made--) {
                ways[made] = waysOn(net, made);
            }
            counted.copyOf(net);
            isCounted = true;
        }

        private long waysOn(Net net, int made) {
            long sum = 0;
            for (int u = 0; u < net.items; u++) {
                if (net.isReady(u, made)) {
                    sum += ways[made | 1 << u];
                }
            }
            return sum;
        }

        long all(Net net) {
            prepare(net);
            return ways[0];
        }

        long rank(Net net) {
            prepare(net);
            long less = 0;
            int made = 0;
            for (int p = 0; p < net.items; p++) {
                int there = net.order[p];
                for (int u = 0; u < there; u++) {
                    if (net.isReady(u, made)) {
                        less += ways[made | 1 << u];
                    }
                }
                made |= 1 << there;
            }
            return less;
        }

        int itemOf(Net net, long k, int place) {
            if (k >= all(net)) {
                return NONE;
            }
            long left = k;
            int made = 0;
            int there = NONE;
            for (int p = 0; p <= place; p++) {
                for (int u = 0; u < net.items; u++) {
                    if (!net.isReady(u, made)) {
                        continue;
                    }
                    if (left < ways[made | 1 << u]) {
                        there = u;
                        made |= 1 << u;
                        break;
                    }
                    left -= ways[made | 1 << u];
                }
            }
            return there;
        }
    }

    /** Finds the fewest days in which so many hands make all. */
    private static final class Calendar {
        private static final int NEVER = MOST_ITEMS + 1;

        /** The fewest days by which the items of the index (bits), and no others, can be made. */
        private final int[] fewest = new int[1 << MOST_ITEMS];

        int fewestDays(Net net, int hands) {
            Arrays.fill(fewest, NEVER);
            fewest[0] = 0;
            int every = net.everyItem();
            for (int made = 0; made < every; made++) {
                if (fewest[made] < NEVER) {
                    int ready = net.allReady(made);
                    // A hand that rests while an item is ready never makes it fewer days.
                    int busy = Math.min(hands, Integer.bitCount(ready));
                    work(fewest, made, ready, 0, busy, fewest[made] + 1);
                }
            }
            return fewest[every];
        }

        /** Marks what can be made by a day's end, if so many hands more each take an item, none below u. */
        private static void work(int[] fewest, int made, int ready, int u, int hands, int day) {
            if (hands <= 0) {
                fewest[made] = Math.min(fewest[made], day);
                return;
            }
            for (int i = u; i < MOST_ITEMS; i++) {
                if (holdsBit(ready, i)) {
                    work(fewest, made | 1 << i, ready, i + 1, hands - 1, day);
                }
            }
        }
    }
}
