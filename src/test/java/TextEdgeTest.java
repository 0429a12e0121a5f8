/** The edges of 'Terms', THE TEXT, TOKENS, FAULT, and of promises 2 to 4: a test for each sentence. */
public final class TextEdgeTest {
    private static final Due DUE = new Due("TextEdgeTest");

    public static void main(String[] args) {
        textOf120Letters();
        toldLetterByLetter();
        blanksBetweenTokens();
        blankIs32Alone();
        entriesEnded();
        itemsFirstOfAll();
        itemsNotTold();
        arcPutAsByPuts();
        tokensOfAllLetters();
        faultAtFirstLetter();
        faultIsTheFirst();
        faultOfASecondN();
        faultOfVThatIsU();
        faultOfAnArcToldAlready();
        faultOfARing();
        faultOfItemsBeyond();
        faultOfAnItemBeyond();
        faultAbove99();
        faultOfLeading0();
        faultOfAnEarlyEnd();
        faultOfAFullText();
        typeNumbers();
        typeFull();
        clear();
        storeOfNoText();
        storeEmptiesTheText();
        storeCountsEntries();
        readAnew();
        DUE.end();
    }

    private static void fault(String text, int place) {
        DUE.is("store of '" + text + "'", Due.stored(new ArcOrder(), text), -10 - place);
    }

    private static void entries(String text, int howMany) {
        DUE.is("store of '" + text + "'", Due.stored(new ArcOrder(), text), howMany);
    }

    private static String filled(String text, int length) {
        return text + " ".repeat(length - text.length());
    }

    private static void textOf120Letters() {
        DUE.says("They are a text (120 letters at most)");
        ArcOrder x = new ArcOrder();
        String head = filled("n12;", 114);
        Due.type(x, head + "a11 0");
        DUE.is("119 letters", x.count(3), 119);
        DUE.is("the 120th letter", x.type(';'), 120);
        DUE.is("the 121st letter", x.type('x'), ArcOrder.FULL);
        DUE.is("count(3)", x.count(3), 120);
        DUE.is("store()", x.store(), 2);
        DUE.is("the last entry is read", x.at(0), 11);
    }

    private static void toldLetterByLetter() {
        DUE.says("told letter by letter");
        ArcOrder x = new ArcOrder();
        String text = "n12;a10 9;";
        for (int i = 0; i < text.length(); i++) {
            DUE.is("type of letter " + i, x.type(text.charAt(i)), i + 1);
            DUE.is("nothing is told by letter " + i, x.count(0), 4);
        }
        DUE.is("store()", x.store(), 2);
        DUE.is("count(0)", x.count(0), 12);
        DUE.is("item(9, 2)", x.item(9, 2), 1 << 10);
    }

    private static void blanksBetweenTokens() {
        DUE.says("blanks (32) between TOKENS");
        String[] alike = {
            "n12;a11 10;", " n12;a11 10;", "n 12;a11 10;", "n12 ;a11 10;", "n12; a11 10;", "n12;a 11 10;",
            "n12;a11  10;", "n12;a11 10 ;", "n12;a11 10; ", "   n   12   ;   a   11   10   ;   ",
        };
        for (String text : alike) {
            ArcOrder x = new ArcOrder();
            DUE.is("store of '" + text + "'", Due.stored(x, text), 2);
            DUE.is("order by '" + text + "'", Due.order(x), "0 1 2 3 4 5 6 7 8 9 11 10");
        }
        // A blank ends a number: 1 and 2 are not 12.
        fault("n1 2;", 3);
        fault("a1 1 0;", 3);
        fault("a0 1 2;", 5);
        // No blank: 10 is one number, and V is not told.
        fault("a10;", 1);
        fault("n12;a10;", 7);
    }

    private static void blankIs32Alone() {
        DUE.says("blanks (32)");
        int[] others = {0, 8, 9, 10, 11, 12, 13, 31, 33, 160, 255};
        for (int letter : others) {
            ArcOrder x = new ArcOrder();
            Due.type(x, "n4;");
            x.type(letter);
            DUE.is("store with letter " + letter, x.store(), -13);
        }
    }

    private static void entriesEnded() {
        DUE.says("ENTRIES, each ended by ;");
        entries("n4;", 1);
        entries("n4;a0 1;", 2);
        fault("n4", 2);
        fault("n4 a0 1;", 3);
        fault("a0 1", 4);
        fault("a0 1 a1 2;", 5);
        fault("a0 1,a1 2;", 4);
        fault(";", 0);
        fault(";n4;", 0);
        fault("n4;;", 3);
        fault("a0 1; ;", 6);
        fault("n;", 1);
        fault("a;", 1);
        fault("a0;", 2);
    }

    private static void itemsFirstOfAll() {
        DUE.says("n N (ITEMS; the first of all, if it is told)");
        entries("n2;a1 0;", 2);
        fault("a1 0;n2;", 5);
        fault("n2;a1 0;n2;", 8);
        fault("n2;n2;", 3);
        fault("n4;n4;", 3);
    }

    private static void itemsNotTold() {
        DUE.says("the first of all, if it is told");
        ArcOrder x = Due.of("n12;");
        DUE.is("without n", Due.stored(x, "a3 2;"), 1);
        DUE.is("4 items", x.count(0), 4);
        DUE.is("order", Due.order(x), "0 1 3 2");
        fault("a4 0;", 1);
        fault("a0 4;", 3);
    }

    private static void arcPutAsByPuts() {
        DUE.says("a U V (an ARC, PUT as by puts())");
        ArcOrder told = Due.of("n6;a5 1;a3 5;a1 0;a4 3;");
        ArcOrder put = Due.of("n6;");
        put.puts(5, 1);
        put.puts(3, 5);
        put.puts(1, 0);
        put.puts(4, 3);
        DUE.is("order told", Due.order(told), "4 3 2 5 1 0");
        DUE.is("order put", Due.order(put), "4 3 2 5 1 0");
        DUE.is("arcs told", Due.arcs(told), "0 1 0 32 8 2");
        DUE.is("arcs put", Due.arcs(put), "0 1 0 32 8 2");
        DUE.is("arcs told, now(0)", told.now(0), 4);
        DUE.is("an arc told can be cut", told.cuts(5, 1), 3);
    }

    private static void tokensOfAllLetters() {
        DUE.says("TOKENS are the letters n, a, NUMBERS and ; .");
        for (int letter = 0; letter <= 255; letter++) {
            boolean isBlank = letter == ' ';
            boolean isDigit = letter >= '0' && letter <= '9';
            boolean begins = letter == 'n' || letter == 'a';
            with("", letter, isBlank ? 0 : begins ? -11 : -10);
            with("n", letter, isBlank ? -12 : isDigit && letter != '0' ? -12 : -11);
            with("n4", letter, isBlank ? -13 : letter == ';' ? 1 : isDigit ? -11 : -12);
            with("n4;", letter, isBlank ? 1 : letter == 'a' ? -14 : -13);
            with("a", letter, isBlank || letter >= '0' && letter <= '3' ? -12 : -11);
            with("a0 ", letter, isBlank || letter >= '1' && letter <= '3' ? -14 : -13);
            with("a0 1", letter, isBlank ? -15 : letter == ';' ? 1 : isDigit ? -13 : -14);
        }
    }

    private static void with(String text, int letter, int due) {
        ArcOrder x = new ArcOrder();
        Due.type(x, text);
        x.type(letter);
        DUE.is("store of '" + text + "' and letter " + letter, x.store(), due);
    }

    private static void faultAtFirstLetter() {
        DUE.says("the place of the first letter of the first TOKEN that can't stand there");
        fault("n13;", 1);
        fault("n 13;", 2);
        fault("n   13;", 4);
        fault("a10 0;", 1);
        fault("a0 10;", 3);
        fault("a0   10;", 5);
        fault("  x", 2);
        fault("12;", 0);
        fault("  12;", 2);
        fault("n4 12;", 3);
    }

    private static void faultIsTheFirst() {
        DUE.says("the first TOKEN that can't stand there");
        fault("x n0;", 0);
        fault("n0;x", 1);
        fault("a0 0;a1 1;", 3);
        fault("a1 0;a0 0;a9 9;", 8);
        fault("a0 1;a1 0;n4;", 8);
        // What comes behind is not looked at, not even for letters that are no tokens, or an early end.
        fault("a4 0 x", 1);
        fault("a0 0", 3);
        fault("n0", 1);
    }

    private static void faultOfASecondN() {
        DUE.says("n behind another ENTRY");
        fault("n4;n4;", 3);
        fault("a0 1;n4;", 5);
        fault("a0 1;  n4;", 7);
        fault("a0 1;n", 5);
        fault("n4;n", 3);
        fault("nn4;", 1);
    }

    private static void faultOfVThatIsU() {
        DUE.says("V that is U");
        fault("a0 0;", 3);
        fault("a3 3;", 3);
        fault("n12;a11 11;", 8);
        fault("n1;a0 0;", 6);
    }

    private static void faultOfAnArcToldAlready() {
        DUE.says("an ARC told already");
        fault("a0 1;a0 1;", 8);
        fault("a3 0;a0 1;a3 0;", 13);
        fault("n12;a11 10;a11 10;", 15);
        ArcOrder x = Due.of("a0 1;");
        DUE.is("an arc that is there, but not told", Due.stored(x, "a0 1;"), 1);
    }

    private static void faultOfARing() {
        DUE.says("or that would close a RING");
        fault("a0 1;a1 0;", 8);
        fault("a0 1;a1 2;a2 3;a3 0;", 18);
        fault("n12;a0 11;a11 10;a10 0;", 21);
        entries("a0 1;a1 2;a0 2;", 3);
        ArcOrder x = Due.of("a0 1;");
        DUE.is("against an arc that is there, but not told", Due.stored(x, "a1 0;"), 1);
        Due.stored(x, "a1 0;a0 1;");
        DUE.is("lap() tells no ring of a text", x.lap(-1), 0);
    }

    private static void faultOfItemsBeyond() {
        DUE.says("a NUMBER beyond what it may be, too");
        for (int n = 0; n <= 99; n++) {
            int due = n >= 1 && n <= 12 ? 1 : -11;
            DUE.is("store of n" + n, Due.stored(new ArcOrder(), "n" + n + ";"), due);
        }
    }

    private static void faultOfAnItemBeyond() {
        DUE.says("a NUMBER beyond what it may be");
        for (int n = 2; n <= 12; n++) {
            String items = "n" + n + ";";
            int last = n - 1;
            entries(items + "a" + last + " 0;", 2);
            entries(items + "a0 " + last + ";", 2);
            fault(items + "a" + n + " 0;", items.length() + 1);
            fault(items + "a0 " + n + ";", items.length() + 3);
            fault(items + "a99 0;", items.length() + 1);
            fault(items + "a0 99;", items.length() + 3);
        }
        fault("n1;a0 1;", 6);
        fault("n1;a1 0;", 4);
    }

    private static void faultAbove99() {
        DUE.says("a NUMBER above 99");
        String[] above = {
            "100", "101", "112", "256", "257", "65537", "4294967296", "4294967297", "4294967299",
            "18446744073709551617", "340282366920938463463374607431768211457",
        };
        for (String number : above) {
            fault("n" + number + ";", 1);
            fault("a" + number + " 0;", 1);
            fault("a0 " + number + ";", 3);
            fault(number, 0);
        }
        fault("n" + "1".repeat(119), 1);
        fault("n" + "0".repeat(119), 1);
    }

    private static void faultOfLeading0() {
        DUE.says("with a 0 ahead of others, that TOKEN's");
        entries("a0 1;", 1);
        entries("a1 0;", 1);
        fault("a00 1;", 1);
        fault("a01 0;", 1);
        fault("a0 01;", 3);
        fault("a1 00;", 3);
        fault("n04;", 1);
        fault("n012;", 1);
        fault("n00;", 1);
        fault("n000000004;", 1);
        entries("n10;", 1);
        entries("n12;a10 0;", 2);
    }

    private static void faultOfAnEarlyEnd() {
        DUE.says("the text's length, if it ends too early.");
        String text = "n 12 ; a 11 10 ;";
        for (int length = 0; length <= text.length(); length++) {
            boolean isWhole = length == 0 || length == 6 || length == 7 || length == 16;
            int due = length == 0 ? 0 : length < 16 ? 1 : 2;
            String some = text.substring(0, length);
            // Of 11 and 10 the first figure alone is an item too, and of 12.
            DUE.is("store of '" + some + "'", Due.stored(new ArcOrder(), some), isWhole ? due : -10 - length);
        }
        fault("n", 1);
        fault("n   ", 4);
        fault("n4   ", 5);
        fault("a  ", 3);
        fault("a0 1  ", 6);
        fault("n4;a0 1;a", 9);
    }

    private static void faultOfAFullText() {
        DUE.says("-10 less FAULT");
        fault(filled("a0 1;a1 2", 120), 120);
        fault(filled("n4;", 119) + "x", 119);
        fault(filled("n4;", 119) + "a", 120);
        fault("x" + filled("n4;", 119), 0);
        entries(filled("n4;", 120), 1);
        entries(" ".repeat(117) + "n4;", 1);
        entries(" ".repeat(120), 0);
    }

    private static void typeNumbers() {
        DUE.says("A letter (0 .. 255) comes to THE TEXT: how many it has. BAD");
        ArcOrder x = new ArcOrder();
        int[] never = {Integer.MIN_VALUE, -256, -1, 256, 257, 256 + 'n', 65536 + 'n', Integer.MAX_VALUE};
        for (int letter : never) {
            DUE.is("type(" + letter + ")", x.type(letter), ArcOrder.BAD);
        }
        DUE.is("count(3)", x.count(3), 0);
        DUE.is("type(0)", x.type(0), 1);
        DUE.is("type(255)", x.type(255), 2);
        DUE.is("count(3)", x.count(3), 2);
        ArcOrder all = new ArcOrder();
        for (int letter = 0; letter < 120; letter++) {
            DUE.is("type(" + letter + ")", all.type(letter), letter + 1);
        }
        all.clear();
        for (int letter = 136; letter <= 255; letter++) {
            DUE.is("type(" + letter + ")", all.type(letter), letter - 135);
        }
    }

    private static void typeFull() {
        DUE.says("how many it has. BAD; FULL.");
        ArcOrder x = new ArcOrder();
        Due.type(x, filled("n7;", 119));
        DUE.is("the last that is taken", x.type(' '), 120);
        DUE.is("the first that is not", x.type(' '), ArcOrder.FULL);
        DUE.is("nor another", x.type(0), ArcOrder.FULL);
        DUE.is("BAD is ahead of FULL", x.type(256), ArcOrder.BAD);
        DUE.is("BAD is ahead of FULL", x.type(-1), ArcOrder.BAD);
        DUE.is("count(3)", x.count(3), 120);
        DUE.is("store()", x.store(), 1);
        DUE.is("type() behind store()", x.type(' '), 1);
    }

    private static void clear() {
        DUE.says("THE TEXT is empty: how many letters it had.");
        ArcOrder x = new ArcOrder();
        DUE.is("of none", x.clear(), 0);
        x.type('n');
        DUE.is("of one", x.clear(), 1);
        DUE.is("again", x.clear(), 0);
        Due.type(x, "x".repeat(120));
        DUE.is("of a full one", x.clear(), 120);
        DUE.is("count(3)", x.count(3), 0);
        DUE.is("type() behind clear()", x.type('n'), 1);
        Due.type(x, "5;");
        DUE.is("nothing of what was cleared is read", x.store(), 1);
        DUE.is("count(0)", x.count(0), 5);
        x.puts(1, 0);
        x.puts(0, 1);
        x.lists(2, 0);
        x.sees(1, 1);
        x.keep(0);
        String ahead = Probe.light(x);
        x.type('x');
        x.clear();
        DUE.is("all else stays", Probe.light(x), ahead);
        DUE.is("what was seen stays: (2, 1), (3, 1), (4, 1) move 1", x.unseen(0), 3);
        DUE.is("the ring stays", Due.ring(x), "1 0");
        DUE.is("the image stays", x.back(0), 1);
    }

    private static void storeOfNoText() {
        DUE.says("THE TEXT tells all anew, and is empty then: how many ENTRIES.");
        ArcOrder x = Due.of("n7;a6 0;");
        DUE.is("store() of no text", x.store(), 0);
        DUE.is("count(0)", x.count(0), 4);
        DUE.is("now(0)", x.now(0), 0);
        DUE.is("order", Due.order(x), "0 1 2 3");
    }

    private static void storeEmptiesTheText() {
        DUE.says("and is empty then");
        ArcOrder x = new ArcOrder();
        Due.type(x, "n7;");
        DUE.is("store()", x.store(), 1);
        DUE.is("count(3)", x.count(3), 0);
        DUE.is("store() again", x.store(), 0);
        DUE.is("count(0)", x.count(0), 4);
        Due.type(x, "n7;x");
        DUE.is("refused", x.store(), -13);
        DUE.is("a refused text stays", x.count(3), 4);
        DUE.is("and is refused again", x.store(), -13);
        DUE.is("clear()", x.clear(), 4);
    }

    private static void storeCountsEntries() {
        DUE.says("how many ENTRIES");
        entries("", 0);
        entries("n4;", 1);
        entries("a0 1;", 1);
        StringBuilder text = new StringBuilder("n9;");
        int arcs = 0;
        for (int u = 0; u < 9; u++) {
            for (int v = u + 1; v < 9 && text.length() <= 115; v++) {
                text.append('a').append(u).append(' ').append(v).append(';');
                arcs++;
            }
        }
        DUE.is("as many arcs as there is room for", arcs, 23);
        ArcOrder x = new ArcOrder();
        DUE.is("store of them", Due.stored(x, text.toString()), 24);
        DUE.is("now(0)", x.now(0), 23);
    }

    private static void readAnew() {
        DUE.says("(Read anew: as told, THE LIST is empty, nothing can be UNDONE, nothing SEEN, IMAGES are gone.)");
        ArcOrder x = Due.of("n12;a11 0;");
        for (int v = 1; v <= 10; v++) {
            x.puts(0, v);
            x.lists(11, v);
            x.sees(v, 0);
        }
        x.keep(0);
        x.keep(1);
        DUE.is("store", Due.stored(x, "n3;a2 1;"), 2);
        DUE.is("as told, items", x.count(0), 3);
        DUE.is("as told, order", Due.order(x), "0 2 1");
        DUE.is("as told, arcs", Due.arcs(x), "0 0 2");
        DUE.is("THE LIST", x.count(1), 0);
        DUE.is("adds()", x.adds(), ArcOrder.STATE);
        DUE.is("how many may be undone", x.now(5), 0);
        DUE.is("undo()", x.undo(), ArcOrder.STATE);
        DUE.is("SEEN", x.count(2), 0);
        DUE.is("forget()", x.forget(), 0);
        DUE.is("unseen(0)", x.unseen(0), 4);
        DUE.is("back(0)", x.back(0), ArcOrder.STATE);
        DUE.is("back(1)", x.back(1), ArcOrder.STATE);
        DUE.is("lists(2, 0)", x.lists(2, 0), 1);
        DUE.is("sees(0, 1)", x.sees(0, 1), 1);
        DUE.is("puts(1, 0)", x.puts(1, 0), 3);
        DUE.is("now(5)", x.now(5), 1);
        DUE.is("keep(1)", x.keep(1), 2);
        DUE.is("back(0), only 1 was kept", x.back(0), ArcOrder.STATE);
    }
}
