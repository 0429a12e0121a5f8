/** Compares answers with those that are due, and tells which are not so. */
final class Due {
    private final String name;
    private int asked;
    private int wrong;
    private int sentences;
    /** What the document says, in its own words, of the answers that are compared now. */
    private String sentence = "";

    Due(String name) {
        this.name = name;
    }

    void says(String words) {
        sentences++;
        sentence = " [" + words + "]";
    }

    void is(String call, long got, long want) {
        asked++;
        if (got != want) {
            tell(call + " answered " + got + ", due is " + want);
        }
    }

    void is(String call, String got, String want) {
        asked++;
        if (!got.equals(want)) {
            tell(call + " gave " + got + ", due is " + want);
        }
    }

    private void tell(String what) {
        wrong++;
        System.out.println(name + sentence + ": " + what);
    }

    boolean isWrong() {
        return wrong > 0;
    }

    void end() {
        String of = sentences > 0 ? " to " + sentences + " sentences" : "";
        System.out.println(name + ": " + asked + " answers" + of + ", " + wrong + " not as due");
        if (wrong > 0) {
            System.exit(1);
        }
    }

    static void type(ArcOrder x, String text) {
        for (int i = 0; i < text.length(); i++) {
            x.type(text.charAt(i));
        }
    }

    /** What store() answers to a text; the text is cleared, if it was refused. */
    static int stored(ArcOrder x, String text) {
        x.clear();
        type(x, text);
        int answer = x.store();
        x.clear();
        return answer;
    }

    static ArcOrder of(String text) {
        ArcOrder x = new ArcOrder();
        if (stored(x, text) < 0) {
            throw new IllegalStateException("not a text: " + text);
        }
        return x;
    }

    static String order(ArcOrder x) {
        StringBuilder all = new StringBuilder();
        for (int p = 0; p < x.count(0); p++) {
            all.append(p == 0 ? "" : " ").append(x.at(p));
        }
        return all.toString();
    }

    static String kth(ArcOrder x, long k) {
        StringBuilder all = new StringBuilder();
        for (int p = 0; p < x.count(0); p++) {
            all.append(p == 0 ? "" : " ").append(x.kth(k, p));
        }
        return all.toString();
    }

    static String ring(ArcOrder x) {
        StringBuilder all = new StringBuilder();
        for (int k = 0; k < x.lap(-1); k++) {
            all.append(k == 0 ? "" : " ").append(x.lap(k));
        }
        return all.toString();
    }

    /** Arcs, as to which items they lead from each. */
    static String arcs(ArcOrder x) {
        StringBuilder all = new StringBuilder();
        for (int u = 0; u < x.count(0); u++) {
            all.append(u == 0 ? "" : " ").append(x.item(u, 1));
        }
        return all.toString();
    }
}
