import java.math.BigInteger;
import java.util.ArrayList;
import java.util.List;

/** The sentences on sheets, findings, counts and the digest (Terms, promises 32 to 39), edge by edge. */
public final class SheetsEdgesTest {
    private static final Check CHECK = new Check("SheetsEdgesTest");
    private static final int NONE = SmallFirst.NONE, BAD = SmallFirst.BAD;
    private static final int LEAST = Check.LEAST, MOST = Check.MOST;

    public static void main(String[] args) {
        lostAtFirst();
        itemsAtFirst();
        formsAreThree();
        findings();
        findingsChangeNothingElse();
        sheet();
        sheetAnew();
        lose();
        putLowestBits();
        put();
        get();
        copyItems();
        copyAsTheyWere();
        copyNone();
        copy();
        writeWeeks();
        writeLowestBits();
        write();
        count();
        digestOfANewOne();
        digestWraps();
        CHECK.everyPromise(32, 39);
        CHECK.end();
    }

    private static SmallFirst row(int s, int form, int... items) {
        SmallFirst x = new SmallFirst();
        x.sheet(s, form, items.length);
        for (int i = 0; i < items.length; i++) {
            x.put(s, form, i, items[i]);
        }
        return x;
    }

    private static void rowIs(String name, SmallFirst x, int s, int form, int... items) {
        for (int i = 0; i < items.length; i++) {
            CHECK.due(name + ", item " + i, x.get(s, form, i), items[i]);
        }
        CHECK.due(name + ", no item more", x.put(s, form, items.length, 0), Check.INDEX);
    }

    // ---- Terms

    private static void lostAtFirst() {
        CHECK.sentence("Terms", "SHEETS 0 .. 3 are LOST (at first)");
        for (int s = 0; s < 4; s++) {
            SmallFirst x = new SmallFirst();
            CHECK.due("lose " + s, x.lose(s), Check.NULL);
            CHECK.due("put " + s, x.put(s, 0, 0, 0), Check.NULL);
            CHECK.due("get " + s, x.get(s, 0, 0), LEAST);
            CHECK.due("copy from " + s, x.copy(s, 0, s, 0, 0), Check.NULL);
            CHECK.due("write " + s, x.write(0, s), Check.NULL);
            CHECK.due("read " + s, x.read(s), Check.NULL);
            CHECK.due("sheet " + s, x.sheet(s, 0, 1), 1);
            CHECK.due("there it is: " + s, x.put(s, 0, 0, 7), 1);
            for (int t = 0; t < 4; t++) {
                CHECK.due("the others are LOST: " + t, x.lose(t), t == s ? 1 : Check.NULL);
            }
        }
    }

    private static void itemsAtFirst() {
        CHECK.sentence("Terms", "of 0 to 60 items (0 at first)");
        for (int form = 0; form < 3; form++) {
            SmallFirst x = new SmallFirst();
            CHECK.due("60", x.sheet(form, form, 60), 60);
            for (int i = 0; i < 60; i++) {
                CHECK.due("item " + i, x.get(form, form, i), 0);
            }
            CHECK.due("no item 60", x.get(form, form, 60), LEAST);
            CHECK.due("0", x.sheet(form, form, 0), 0);
            CHECK.due("no item 0", x.get(form, form, 0), LEAST);
            CHECK.due("61", x.sheet(form, form, 61), BAD);
            CHECK.due("-1", x.sheet(form, form, -1), Check.SIZE);
            CHECK.due("it has none", x.lose(form), 0);
        }
    }

    private static void formsAreThree() {
        CHECK.sentence("Terms", "a row of a FORM: 0 bytes, 1 shorts, 2 ints");
        int[] least = {-128, -32768, LEAST};
        int[] most = {127, 32767, MOST};
        for (int form = 0; form < 3; form++) {
            SmallFirst x = row(1, form, least[form], most[form], -1, 0);
            rowIs("of form " + form, x, 1, form, least[form], most[form], -1, 0);
            x.put(1, form, 0, least[form] - 1);
            x.put(1, form, 1, most[form] + 1);
            rowIs("wrapped, of form " + form, x, 1, form, most[form], least[form], -1, 0);
            for (int other = 0; other < 3; other++) {
                CHECK.due("put as " + other, x.put(1, other, 3, 0), other == form ? 1 : Check.CAST);
            }
        }
        SmallFirst x = new SmallFirst();
        CHECK.due("form -1", x.sheet(0, -1, 1), BAD);
        CHECK.due("form 3", x.sheet(0, 3, 1), BAD);
    }

    private static void findings() {
        CHECK.sentence("Terms", "1 NULL: the SHEET is LOST; 2 INDEX: there is no such item; 3 CAST: it has another FORM; 4 STORE: unlike FORMS; 5 SIZE: below 0.");
        SmallFirst x = new SmallFirst();
        CHECK.due("0 before any", x.count(8), 0);
        CHECK.due("NULL", x.lose(0), -11);
        CHECK.due("1", x.count(8), 1);
        x.sheet(0, 0, 1);
        x.sheet(1, 1, 1);
        CHECK.due("1 still", x.count(8), 1);
        CHECK.due("INDEX", x.put(0, 0, 1, 0), -12);
        CHECK.due("2", x.count(8), 2);
        CHECK.due("CAST", x.put(0, 1, 0, 0), -13);
        CHECK.due("3", x.count(8), 3);
        CHECK.due("STORE", x.copy(0, 0, 1, 0, 1), -14);
        CHECK.due("4", x.count(8), 4);
        CHECK.due("SIZE", x.sheet(0, 0, -1), -15);
        CHECK.due("5", x.count(8), 5);
        CHECK.due("NULL again", x.read(3), -11);
        CHECK.due("the latest, not the greatest", x.count(8), 1);
    }

    private static void findingsChangeNothingElse() {
        CHECK.sentence("Terms", "FINDINGS (answers -10 less the number; they change nothing but count() 8)");
        SmallFirst x = Houses.lived();
        long before = x.digest();
        CHECK.due("STORE was found", x.count(8), 4);
        for (String refused : new String[] {"type(2, 0)", "undo(2)", "lay(30, 0, 0)", "seen(256, 0)", "sheet(4, 0, 0)",
            "sheet(0, 0, 61)", "lose(4)", "put(4, 0, 0, 0)", "get(4, 0, 0)", "copy(4, 0, 0, 0, 0)", "write(2, 0)", "count(9)",
            "read(4)"}) {
            Calls.ask(x, refused);
            CHECK.due("BAD is no FINDING: " + refused, x.count(8), 4);
        }
        for (String found : new String[] {"lose(3)", "read(3)", "write(0, 3)", "get(0, 0, 6)", "put(0, 1, 0, 9)",
            "copy(0, 0, 1, 0, 1)", "sheet(0, 1, -1)"}) {
            Calls.ask(x, found);
            CHECK.due("the digest behind " + found, x.digest(), before);
        }
        rowIs("sheet 0", x, 0, 0, 1, 2, 3, 4, 0, 0);
    }

    // ---- promises 32, 33

    private static void sheet() {
        CHECK.sentence("Promise 32", "A SHEET is a new row of a FORM with n items: n. BAD: SHEET, FORM, above 60; SIZE.");
        SmallFirst x = new SmallFirst();
        CHECK.due("the smallest numbers", x.sheet(0, 0, 0), 0);
        CHECK.due("the largest numbers", x.sheet(3, 2, 60), 60);
        CHECK.due("sheet -1", x.sheet(-1, 0, 0), BAD);
        CHECK.due("sheet 4", x.sheet(4, 2, 60), BAD);
        CHECK.due("form -1", x.sheet(0, -1, 0), BAD);
        CHECK.due("form 3", x.sheet(3, 3, 60), BAD);
        CHECK.due("61 items", x.sheet(3, 2, 61), BAD);
        CHECK.due("the most items", x.sheet(3, 2, MOST), BAD);
        CHECK.due("-1 items", x.sheet(0, 0, -1), Check.SIZE);
        CHECK.due("the least items", x.sheet(3, 2, LEAST), Check.SIZE);
        CHECK.due("BAD is ahead of SIZE: sheet", x.sheet(4, 0, -1), BAD);
        CHECK.due("BAD is ahead of SIZE: form", x.sheet(0, 3, -1), BAD);
        CHECK.due("sheet 3 is as it was", x.lose(3), 60);
    }

    private static void sheetAnew() {
        CHECK.sentence("Promise 32", "A SHEET is a new row of a FORM with n items");
        SmallFirst x = row(0, 2, 1, 2, 3, 4);
        CHECK.due("shorter", x.sheet(0, 2, 2), 2);
        rowIs("shorter", x, 0, 2, 0, 0);
        x.put(0, 2, 1, 9);
        CHECK.due("longer", x.sheet(0, 2, 5), 5);
        rowIs("longer", x, 0, 2, 0, 0, 0, 0, 0);
        x.put(0, 2, 4, 70000);
        CHECK.due("of another form", x.sheet(0, 0, 5), 5);
        rowIs("of another form", x, 0, 0, 0, 0, 0, 0, 0);
        x.put(0, 0, 0, 5);
        x.lose(0);
        CHECK.due("behind a lost one", x.sheet(0, 0, 1), 1);
        rowIs("behind a lost one", x, 0, 0, 0);
        x.put(0, 0, 0, 5);
        CHECK.due("empty", x.sheet(0, 0, 0), 0);
        CHECK.due("and back", x.sheet(0, 0, 1), 1);
        rowIs("behind an empty one", x, 0, 0, 0);
    }

    private static void lose() {
        CHECK.sentence("Promise 33", "It is LOST: how many items it had. BAD; NULL.");
        SmallFirst x = new SmallFirst();
        for (int s = 0; s < 4; s++) {
            x.sheet(s, 1, s * 20);
        }
        for (int s = 3; s >= 0; s--) {
            CHECK.due("sheet " + s, x.lose(s), s * 20);
            CHECK.due("again " + s, x.lose(s), Check.NULL);
        }
        CHECK.due("sheet -1", x.lose(-1), BAD);
        CHECK.due("sheet 4", x.lose(4), BAD);
        CHECK.due("a lost one has no form", x.put(0, 1, 0, 0), Check.NULL);
    }

    // ---- promises 34, 35

    private static void kept(int form, int v, int want) {
        SmallFirst x = row(3, form, 5);
        CHECK.due("put " + v, x.put(3, form, 0, v), 1);
        CHECK.due("of form " + form + " is kept of " + v, x.get(3, form, 0), want);
    }

    private static void putLowestBits() {
        CHECK.sentence("Promise 34", "becomes v (the lowest bits that it has): 1.");
        int[][] bytes = {{127, 127}, {128, -128}, {255, -1}, {256, 0}, {257, 1}, {-128, -128}, {-129, 127}, {-256, 0},
            {65535, -1}, {MOST, -1}, {LEAST, 0}, {0x12345678, 0x78}};
        for (int[] v : bytes) {
            kept(0, v[0], v[1]);
        }
        int[][] shorts = {{255, 255}, {256, 256}, {32767, 32767}, {32768, -32768}, {65535, -1}, {65536, 0},
            {-32768, -32768}, {-32769, 32767}, {MOST, -1}, {LEAST, 0}, {0x12345678, 0x5678}};
        for (int[] v : shorts) {
            kept(1, v[0], v[1]);
        }
        for (int v : new int[] {0, -1, 65536, MOST, LEAST, 0x12345678}) {
            kept(2, v, v);
        }
    }

    private static void put() {
        CHECK.sentence("Promise 34", "BAD; NULL; CAST; INDEX.");
        SmallFirst x = row(1, 1, 7, 8, 9);
        CHECK.due("the first item", x.put(1, 1, 0, 1), 1);
        CHECK.due("the last item", x.put(1, 1, 2, 3), 1);
        rowIs("the middle one is as it was", x, 1, 1, 1, 8, 3);
        CHECK.due("item -1", x.put(1, 1, -1, 0), Check.INDEX);
        CHECK.due("item 3", x.put(1, 1, 3, 0), Check.INDEX);
        CHECK.due("the least item", x.put(1, 1, LEAST, 0), Check.INDEX);
        CHECK.due("the most item", x.put(1, 1, MOST, 0), Check.INDEX);
        CHECK.due("CAST is ahead of INDEX", x.put(1, 0, 3, 0), Check.CAST);
        CHECK.due("NULL is ahead of both", x.put(0, 0, 3, 0), Check.NULL);
        CHECK.due("BAD is ahead of NULL", x.put(0, 3, 3, 0), BAD);
        CHECK.due("BAD by the sheet", x.put(4, 0, 0, 0), BAD);
        CHECK.due("60 items, the last one", fullRow().put(0, 2, 59, 1), 1);
        CHECK.due("60 items, behind it", fullRow().put(0, 2, 60, 1), Check.INDEX);
        CHECK.due("no items", row(0, 2).put(0, 2, 0, 1), Check.INDEX);
    }

    private static SmallFirst fullRow() {
        return row(0, 2, new int[60]);
    }

    private static void gets(String name, SmallFirst x, int s, int form, int i, int finding) {
        CHECK.due(name, x.get(s, form, i), LEAST);
        CHECK.due(name + ", count(8)", x.count(8), finding);
    }

    private static void get() {
        CHECK.sentence("Promise 35", "Item i of it. BAD: the least int; so are NULL, CAST, INDEX (count() 8 tells).");
        SmallFirst x = row(1, 1, 7, 8, 9);
        rowIs("all", row(1, 1, 7, 8, 9), 1, 1, 7, 8, 9);
        gets("BAD, sheet", x, 4, 1, 0, 0);
        gets("BAD, sheet below", x, -1, 1, 0, 0);
        gets("BAD, form", x, 1, 3, 0, 0);
        gets("BAD, form below", x, 1, -1, 0, 0);
        gets("item 3", x, 1, 1, 3, 2);
        gets("another form", x, 1, 2, 0, 3);
        gets("item -1", x, 1, 1, -1, 2);
        gets("LOST", x, 0, 1, 0, 1);
        gets("CAST is ahead of INDEX", x, 1, 0, 3, 3);
        gets("NULL is ahead of CAST and INDEX", x, 2, 0, -1, 1);
        gets("BAD leaves the FINDING", x, 4, 3, -1, 1);
        CHECK.due("a good one", x.get(1, 1, 2), 9);
        CHECK.due("leaves it, too", x.count(8), 1);
        SmallFirst least = row(0, 2, LEAST);
        CHECK.due("the least int is an item, too", least.get(0, 2, 0), LEAST);
        CHECK.due("then nothing was found", least.count(8), 0);
    }

    // ---- promise 36

    private static void copyItems() {
        CHECK.sentence("Promise 36", "n items of SHEET s, from i on, come to SHEET t");
        for (int form = 0; form < 3; form++) {
            SmallFirst x = row(0, form, 1, -2, 3, -4, 5);
            x.sheet(3, form, 3);
            CHECK.due("all that fit", x.copy(0, 0, 3, 0, 3), 1);
            rowIs("all that fit", x, 3, form, 1, -2, 3);
            CHECK.due("the last ones", x.copy(0, 3, 3, 1, 2), 1);
            rowIs("the last ones", x, 3, form, 1, -4, 5);
            CHECK.due("back", x.copy(3, 2, 0, 0, 1), 1);
            rowIs("back", x, 0, form, 5, -2, 3, -4, 5);
        }
        SmallFirst most = row(0, 1, new int[60]);
        most.put(0, 1, 59, 6);
        most.sheet(1, 1, 60);
        CHECK.due("60 items", most.copy(0, 0, 1, 0, 60), 1);
        CHECK.due("the last of them", most.get(1, 1, 59), 6);
        CHECK.due("61 items", most.copy(0, 0, 1, 0, 61), Check.INDEX);
    }

    private static void copyAsTheyWere() {
        CHECK.sentence("Promise 36", "(perhaps s, as they were), from j on: 1.");
        SmallFirst up = row(2, 0, 1, 2, 3, 4, 5);
        CHECK.due("upwards", up.copy(2, 0, 2, 1, 4), 1);
        rowIs("upwards", up, 2, 0, 1, 1, 2, 3, 4);
        SmallFirst down = row(2, 1, 1, 2, 3, 4, 5);
        CHECK.due("downwards", down.copy(2, 1, 2, 0, 4), 1);
        rowIs("downwards", down, 2, 1, 2, 3, 4, 5, 5);
        SmallFirst same = row(2, 2, 1, 2, 3);
        CHECK.due("onto itself", same.copy(2, 0, 2, 0, 3), 1);
        rowIs("onto itself", same, 2, 2, 1, 2, 3);
        SmallFirst apart = row(2, 2, 1, 2, 3, 4);
        CHECK.due("apart", apart.copy(2, 0, 2, 2, 2), 1);
        rowIs("apart", apart, 2, 2, 1, 2, 1, 2);
    }

    private static void copyNone() {
        CHECK.sentence("Promise 36", "INDEX: below 0, not so many.");
        SmallFirst x = row(0, 1, 1, 2, 3);
        x.sheet(1, 1, 0);
        CHECK.due("no items", x.copy(0, 0, 0, 0, 0), 1);
        CHECK.due("no items, from the end", x.copy(0, 3, 0, 3, 0), 1);
        CHECK.due("no items, to an empty one", x.copy(0, 0, 1, 0, 0), 1);
        CHECK.due("no items, from an empty one", x.copy(1, 0, 0, 3, 0), 1);
        CHECK.due("no items, from behind the end", x.copy(0, 4, 0, 0, 0), Check.INDEX);
        CHECK.due("no items, to behind the end", x.copy(0, 0, 0, 4, 0), Check.INDEX);
        CHECK.due("no items, from -1", x.copy(0, -1, 0, 0, 0), Check.INDEX);
        CHECK.due("no items, to -1", x.copy(0, 0, 0, -1, 0), Check.INDEX);
        CHECK.due("one item of an empty one", x.copy(1, 0, 0, 0, 1), Check.INDEX);
        CHECK.due("one item to an empty one", x.copy(0, 0, 1, 0, 1), Check.INDEX);
        CHECK.due("-1 items", x.copy(0, 1, 0, 1, -1), Check.INDEX);
        CHECK.due("-1 items from the end", x.copy(0, 3, 0, 3, -1), Check.INDEX);
        CHECK.due("a sum that wraps", x.copy(0, 1, 0, 0, MOST), Check.INDEX);
        CHECK.due("another one", x.copy(0, MOST, 0, 0, MOST), Check.INDEX);
        CHECK.due("another one, to", x.copy(0, 0, 0, MOST, 1), Check.INDEX);
        CHECK.due("two that make 0", x.copy(0, LEAST, 0, LEAST, LEAST), Check.INDEX);
        rowIs("nothing changed", x, 0, 1, 1, 2, 3);
    }

    private static void copy() {
        CHECK.sentence("Promise 36", "BAD: the SHEETS; NULL: s, t; STORE; INDEX");
        SmallFirst x = row(0, 0, 1, 2, 3);
        x.sheet(1, 1, 3);
        CHECK.due("s -1", x.copy(-1, 0, 0, 0, 1), BAD);
        CHECK.due("s 4", x.copy(4, 0, 0, 0, 1), BAD);
        CHECK.due("t -1", x.copy(0, 0, -1, 0, 1), BAD);
        CHECK.due("t 4", x.copy(0, 0, 4, 0, 1), BAD);
        CHECK.due("s is LOST", x.copy(2, 0, 0, 0, 1), Check.NULL);
        CHECK.due("t is LOST", x.copy(0, 0, 3, 0, 1), Check.NULL);
        CHECK.due("unlike FORMS", x.copy(0, 0, 1, 0, 1), Check.STORE);
        CHECK.due("unlike FORMS, no items", x.copy(1, 0, 0, 0, 0), Check.STORE);
        CHECK.due("BAD is ahead of NULL", x.copy(2, 0, 4, 0, 1), BAD);
        CHECK.due("NULL is ahead of INDEX", x.copy(0, -1, 2, 0, 1), Check.NULL);
        CHECK.due("STORE is ahead of INDEX", x.copy(0, -1, 1, 0, 1), Check.STORE);
        CHECK.due("STORE is ahead of INDEX, how many", x.copy(0, 0, 1, 0, -1), Check.STORE);
        rowIs("s", x, 0, 0, 1, 2, 3);
        rowIs("t", x, 1, 1, 0, 0, 0);
    }

    // ---- promise 37

    private static SmallFirst ring() {
        return Check.house("a+A;b+B;c+C;d+D;e+E;f+F;g+G;h+H", "Ab;Bc;Cd;De;Ef;Fg;Gh;Ha", "a");
    }

    private static void writeWeeks() {
        CHECK.sentence("Promise 37", "SMALL things (what = 0), BIG ones (1) of weeks 0 on come to a SHEET from item 0 on, as many as there are items, 30 at most: how many.");
        for (int n : new int[] {0, 1, 2, 29, 30, 31, 60}) {
            SmallFirst x = ring();
            x.sheet(1, 2, n);
            for (int i = 0; i < n; i++) {
                x.put(1, 2, i, 777);
            }
            for (int what = 0; what < 2; what++) {
                CHECK.due(n + " items", x.write(what, 1), Math.min(n, 30));
                for (int i = 0; i < n; i++) {
                    int due = i >= 30 ? 777 : what == 0 ? 1 << i % 8 : i == 0 ? 0 : 1 << (i - 1) % 8;
                    CHECK.due("item " + i + " of " + n, x.get(1, 2, i), due);
                }
            }
            CHECK.due("its length stays", x.lose(1), n);
        }
    }

    private static void writeLowestBits() {
        CHECK.sentence("Promise 37", "come to a SHEET from item 0 on");
        SmallFirst x = Check.house("h+H;a+A", "Hh;Aa;Ab;Ac;Ad;Ae;Af;Ag", "h");
        x.lay(1, 0, 1);
        x.sheet(0, 0, 3);
        x.sheet(1, 1, 3);
        CHECK.due("as bytes", x.write(0, 0), 3);
        rowIs("h is below 0 as a byte", x, 0, 0, -128, -127, -1);
        CHECK.due("as shorts", x.write(0, 1), 3);
        rowIs("and 128 as a short", x, 1, 1, 128, 129, 255);
        CHECK.due("BIG ones as bytes", x.write(1, 0), 3);
        rowIs("BIG ones", x, 0, 0, 0, -128, -127);
    }

    private static void write() {
        CHECK.sentence("Promise 37", "how many. BAD; NULL.");
        SmallFirst x = ring();
        x.sheet(0, 0, 1);
        x.sheet(3, 2, 60);
        CHECK.due("what 0, sheet 0", x.write(0, 0), 1);
        CHECK.due("what 1, sheet 3", x.write(1, 3), 30);
        CHECK.due("what -1", x.write(-1, 0), BAD);
        CHECK.due("what 2", x.write(2, 0), BAD);
        CHECK.due("sheet -1", x.write(0, -1), BAD);
        CHECK.due("sheet 4", x.write(1, 4), BAD);
        CHECK.due("LOST", x.write(0, 1), Check.NULL);
        CHECK.due("BAD is ahead of NULL", x.write(2, 1), BAD);
        x.lay(0, 7, 1);
        x.write(0, 3);
        CHECK.due("with LAYINGS", x.get(3, 2, 0), 129);
        CHECK.due("in week 1, too", x.get(3, 2, 1), 3);
    }

    // ---- promises 38, 39

    private static void count() {
        CHECK.sentence("Promise 38", "0 LAWS, 1 DUST, 2, 3 bytes of texts, 4 LAYINGS, 5 SEEN, 6 laws with +, 7 FIRST, 8 the number of the latest FINDING (0 before any). BAD.");
        int[] lived = {6, 5, 25, 14, 3, 3, 4, 135, 4};
        int[] full = {16, 12, 79, 35, 12, 8, 12, 255, 3};
        for (int what = 0; what < 9; what++) {
            CHECK.due("of a new one, " + what, new SmallFirst().count(what), 0);
            CHECK.due("of a lived one, " + what, Houses.lived().count(what), lived[what]);
            CHECK.due("of a full one, " + what, Houses.full().count(what), full[what]);
        }
        SmallFirst x = Houses.full();
        CHECK.due("-1", x.count(-1), BAD);
        CHECK.due("9", x.count(9), BAD);
        x.undo(0);
        x.undo(1);
        CHECK.due("with a FAULT no LAWS", x.count(0), 0);
        CHECK.due("none with +", x.count(6), 0);
        CHECK.due("no DUST", x.count(1), 0);
        CHECK.due("but bytes of text 0", x.count(2), 78);
        CHECK.due("and of text 1", x.count(3), 34);
        x.lay(0, 0, 1);
        x.back();
        x.back();
        CHECK.due("LAYINGS", x.count(4), 10);
    }

    private static long folded(List<Integer> all) {
        BigInteger h = BigInteger.valueOf(17);
        for (int v : all) {
            h = h.multiply(BigInteger.valueOf(31)).add(BigInteger.valueOf(v));
        }
        return h.longValue();
    }

    private static void digestOfANewOne() {
        CHECK.sentence("Promise 39", "h is 17; h becomes 31 h and each of: count() 0 to 7; of texts fault(); of LAWS rule() 0 to 2, of DUST dust() 0, 1;");
        List<Integer> all = new ArrayList<>(List.of(0, 0, 0, 0, 0, 0, 0, 0, NONE, NONE));
        all.addAll(List.of(0, 0, 0, 0, 0, 0, 0, 0));
        all.addAll(List.of(NONE, NONE, 0, NONE, NONE, 1, 0, 2, 1, 0, 0));
        for (int big = 0; big < 8; big++) {
            all.addAll(List.of(0, 0, 0, 0, NONE, 256, 0, 0, 0, 1, 0));
        }
        CHECK.due("of a new object", new SmallFirst().digest(), folded(all));
        SmallFirst x = Check.house("a+A", "Ha", "a");
        x.lay(0, 7, 1);
        List<Integer> one = new ArrayList<>(List.of(1, 1, 3, 2, 1, 0, 1, 1, NONE, NONE, 1, 1, 0, 7, 0));
        one.addAll(List.of(129, 0, 0, 1, 0, 0, 0, 0));
        one.addAll(List.of(NONE, NONE, 1, NONE, NONE, 1, 0, 2, 1, 254, 0));
        one.addAll(List.of(1, 1, 0, 0, NONE, 256, 0, 0, 31, 32, 1));
        for (int big = 1; big < 8; big++) {
            one.addAll(List.of(0, 0, 0, 0, NONE, 256, 0, 0, 0, 1, 0));
        }
        CHECK.due("of one law, one dust, FIRST and a LAYING", x.digest(), folded(one));
    }

    private static void digestWraps() {
        CHECK.sentence("Promise 39", "as longs that wrap.");
        CHECK.due("of a lived one", Houses.lived().digest(), Houses.livedPlain().digest());
        CHECK.due("of a full one", Houses.full().digest(), Houses.fullPlain().digest());
        SmallFirst x = Houses.full();
        Plain plain = Houses.fullPlain();
        for (String call : new String[] {"undo(0)", "undo(1)", "wipe(0)", "back()", "forget()", "first(7)", "wipe(1)"}) {
            Calls.ask(x, call);
            Calls.ask(plain, call);
            CHECK.due("behind " + call, x.digest(), plain.digest());
            CHECK.due("twice the same, behind " + call, x.digest(), plain.digest());
        }
    }
}
