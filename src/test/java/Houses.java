/**
 * Objects in the three states in which calls are tried: new, with something of all, and full. Each is made
 * by the same calls for SmallFirst and for the plain reading.
 */
final class Houses {
    static final String FULL_LAWS =
        "ab+A;bc+B;cd+C;de+D;ef+E;fg+F;gh+G;ah+H;ac-B;bd-C;ce+H;df+A;eg-E;fh+B;ag-A;bh+D";
    static final String FULL_DUST = "Aa;Ab;Bc;Bd;Ce;Cf;Dg;Dh;Ea;Fb;Gc;Hd";

    private Houses() {
    }

    static SmallFirst empty() {
        return new SmallFirst();
    }

    static SmallFirst lived() {
        return live(new SmallFirst());
    }

    static Plain livedPlain() {
        return live(new Plain());
    }

    static SmallFirst full() {
        return fill(new SmallFirst());
    }

    static Plain fullPlain() {
        return fill(new Plain());
    }

    private static void type(Object x, int text, String bytes) {
        for (char b : bytes.toCharArray()) {
            Calls.ask(x, "type", text, b);
        }
    }

    /** Six laws, five dusts, three layings, three seen, sheets 0 to 2 of each form, sheet 3 LOST, STORE found. */
    private static <T> T live(T x) {
        type(x, 0, "a+A;bc+B;d-B;b+C;h+H;gh-H");
        type(x, 1, "Ab;Bc;Ca;Hh;Hg");
        Calls.ask(x, "first", Check.bits("abch"));
        Calls.ask(x, "lay", 0, 3, 1);
        Calls.ask(x, "lay", 1, 0, 0);
        Calls.ask(x, "lay", 29, 7, 1);
        Calls.ask(x, "seen", Check.bits("ad"), Check.bits("A"));
        Calls.ask(x, "seen", Check.bits("bc"), Check.bits("BC"));
        Calls.ask(x, "seen", Check.bits("d"), 0);
        for (int s = 0; s < 3; s++) {
            Calls.ask(x, "sheet", s, s, 6 - s);
            for (int i = 0; i < 4; i++) {
                Calls.ask(x, "put", s, s, i, 10 * s + i + 1);
            }
        }
        Calls.ask(x, "copy", 0, 0, 1, 0, 1);
        return x;
    }

    /** Both texts, the layings, what was seen and all sheets are full; CAST found. */
    private static <T> T fill(T x) {
        type(x, 0, FULL_LAWS);
        type(x, 1, FULL_DUST);
        Calls.ask(x, "first", 255);
        for (int i = 0; i < 12; i++) {
            Calls.ask(x, "lay", i * 29 / 11, i * 5 % 8, i % 2);
        }
        for (int i = 0; i < 8; i++) {
            Calls.ask(x, "seen", 1 << i, i % 2);
        }
        for (int s = 0; s < 4; s++) {
            Calls.ask(x, "sheet", s, s % 3, 60);
            Calls.ask(x, "put", s, s % 3, 0, 100 + s);
            Calls.ask(x, "put", s, s % 3, 59, 110 + s);
        }
        Calls.ask(x, "put", 0, 1, 0, 0);
        return x;
    }
}
