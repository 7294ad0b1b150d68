/** The sentences on what was seen, moved, cats and lots (Terms, part 4, promises 23 to 31), edge by edge. */
public final class SeenEdgesTest {
    private static final Check CHECK = new Check("SeenEdgesTest");
    private static final int NONE = SmallFirst.NONE, BAD = SmallFirst.BAD, FULL = SmallFirst.FULL;
    private static final String KEEP_LAWS = "a+A;b+B;c+C;d+D;e+E;f+F;g+G;h+H";
    private static final String KEEP_DUST = "Aa;Bb;Cc;Dd;Ee;Ff;Gg;Hh";

    public static void main(String[] args) {
        mostSeen();
        seen();
        forget();
        readWhole();
        readAsLongAsEachMayBe();
        readUntilFull();
        read();
        standsInHowMany();
        standsFewest();
        stands();
        watchNearest();
        watch();
        moved();
        fractions();
        cat();
        let();
        lotsThatWrap();
        lotWeeks();
        lot();
        CHECK.everyPromise(23, 31);
        CHECK.end();
    }

    private static int bits(String letters) {
        return Check.bits(letters);
    }

    // ---- SEEN

    private static void mostSeen() {
        CHECK.sentence("Part 4", "SEEN, 8 at most: SMALL things that lay, BIG ones that came by these.");
        SmallFirst x = new SmallFirst();
        for (int n = 1; n <= 8; n++) {
            CHECK.due("seen " + n, x.seen(1 << n - 1, 128), n);
        }
        CHECK.due("all eight count", x.stands(7, 0), 1);
        CHECK.due("so all stand for H", x.stands(7, 1), 255);
        CHECK.due("the ninth", x.seen(255, 0), FULL);
        CHECK.due("it does not count", x.stands(7, 0), 1);
        CHECK.due("how many", x.count(5), 8);
        CHECK.due("forgotten", x.forget(), 8);
        CHECK.due("there is room again", x.seen(255, 0), 1);
    }

    private static void seen() {
        CHECK.sentence("Promise 23", "SEEN more: how many. BAD; FULL.");
        SmallFirst x = new SmallFirst();
        CHECK.due("0, 0", x.seen(0, 0), 1);
        CHECK.due("255, 255", x.seen(255, 255), 2);
        CHECK.due("small 256", x.seen(256, 0), BAD);
        CHECK.due("small -1", x.seen(-1, 0), BAD);
        CHECK.due("big 256", x.seen(0, 256), BAD);
        CHECK.due("big -1", x.seen(0, -1), BAD);
        CHECK.due("the same again is one more", x.seen(255, 255), 3);
        for (int n = 4; n <= 8; n++) {
            CHECK.due("more", x.seen(255, 255), n);
        }
        CHECK.due("full", x.seen(0, 0), FULL);
        CHECK.due("BAD is ahead of FULL", x.seen(256, 0), BAD);
        CHECK.due("BAD is ahead of FULL, big", x.seen(0, -1), BAD);
        SmallFirst y = new SmallFirst();
        y.seen(0, 1);
        CHECK.due("none lay, and A came: none can stand", y.stands(0, 0), 0);
        CHECK.due("none lay, and B did not: all may", y.stands(1, 0), 256);
    }

    private static void forget() {
        CHECK.sentence("Promise 24", "All SEEN are forgotten: how many.");
        SmallFirst x = new SmallFirst();
        CHECK.due("none", x.forget(), 0);
        x.seen(1, 1);
        CHECK.due("one", x.forget(), 1);
        CHECK.due("none again", x.forget(), 0);
        for (int n = 0; n < 8; n++) {
            x.seen(0, 1);
        }
        CHECK.due("eight", x.forget(), 8);
        CHECK.due("nothing of it is left", x.stands(0, 0), 256);
        CHECK.due("how many", x.count(5), 0);
    }

    // ---- read

    private static SmallFirst row(int form, int... items) {
        SmallFirst x = new SmallFirst();
        x.sheet(2, form, items.length);
        for (int i = 0; i < items.length; i++) {
            x.put(2, form, i, items[i]);
        }
        return x;
    }

    private static void readWhole() {
        CHECK.sentence("Promise 25", "SEEN from a SHEET: its items, two for each, as many as are whole");
        for (int form = 0; form < 3; form++) {
            CHECK.due("no items", row(form).read(2), 0);
            CHECK.due("one item", row(form, 1).read(2), 0);
            CHECK.due("two items", row(form, 1, 1).read(2), 1);
            CHECK.due("three items", row(form, 1, 1, 2).read(2), 1);
            CHECK.due("four items", row(form, 1, 1, 2, 2).read(2), 2);
            CHECK.due("fifteen items", row(form, new int[15]).read(2), 7);
            CHECK.due("sixteen items", row(form, new int[16]).read(2), 8);
            CHECK.due("seventeen items", row(form, new int[17]).read(2), 8);
            CHECK.due("sixty items", row(form, new int[60]).read(2), 8);
        }
        SmallFirst x = row(1, 5, 1, 2, 0, 8, 128);
        CHECK.due("three of them", x.read(2), 3);
        CHECK.due("how many are SEEN", x.count(5), 3);
        CHECK.due("SMALL things are told ahead of BIG ones: d stands for H", x.stands(7, 1), bits("d"));
        SmallFirst y = row(1, bits("ac"), bits("A"), bits("b"), 0, bits("a"), 0);
        y.read(2);
        CHECK.due("by these c stands for A", y.stands(0, 1), bits("c"));
        CHECK.due("the sheet is as it was", y.get(2, 1, 0), bits("ac"));
        CHECK.due("and its length", y.lose(2), 6);
    }

    private static void readAsLongAsEachMayBe() {
        CHECK.sentence("Promise 25", "as long as each may be: how many.");
        for (int form = 1; form < 3; form++) {
            CHECK.due("255 may be", row(form, 255, 255, 0, 0).read(2), 2);
            CHECK.due("small 256 may not", row(form, 1, 1, 256, 0, 2, 2).read(2), 1);
            CHECK.due("big 256 may not", row(form, 1, 1, 0, 256, 2, 2).read(2), 1);
            CHECK.due("small -1 may not", row(form, 1, 1, -1, 0, 2, 2).read(2), 1);
            CHECK.due("big -1 may not", row(form, 1, 1, 0, -1, 2, 2).read(2), 1);
            CHECK.due("not the first", row(form, 256, 1, 1, 1).read(2), 0);
            CHECK.due("the last one may not", row(form, 0, 0, 0, 0, 0, 300).read(2), 2);
        }
        CHECK.due("127 may be as a byte", row(0, 127, 127, 1, 1).read(2), 2);
        CHECK.due("128 is below 0 as a byte", row(0, 1, 1, 128, 0, 1, 1).read(2), 1);
        CHECK.due("as BIG ones, too", row(0, 1, 1, 0, 255, 1, 1).read(2), 1);
        CHECK.due("256 is 0 as a byte", row(0, 256, 256, 1, 1).read(2), 2);
        CHECK.due("65536 is 0 as a short", row(1, 65536, 65536).read(2), 1);
        CHECK.due("65536 may not be as an int", row(2, 65536, 65536).read(2), 0);
        CHECK.due("the least int may not", row(2, Check.LEAST, 0).read(2), 0);
        SmallFirst x = row(1, 1, 1, 256, 0, 2, 2);
        x.read(2);
        CHECK.due("what is read ahead of it stays", x.count(5), 1);
        CHECK.due("it is no FINDING", x.count(8), 0);
    }

    private static void readUntilFull() {
        SmallFirst x = row(2, 1, 0, 2, 0, 4, 0);
        for (int n = 0; n < 6; n++) {
            x.seen(0, 0);
        }
        CHECK.due("there is room for two", x.read(2), 2);
        CHECK.due("eight are SEEN", x.count(5), 8);
        CHECK.due("a, b cannot stand, c may", x.stands(0, 0), 64);
        CHECK.due("there is room for none", x.read(2), 0);
        x.forget();
        CHECK.due("all three", x.read(2), 3);
        CHECK.due("and again, behind them", x.read(2), 3);
        CHECK.due("six are SEEN", x.count(5), 6);
    }

    private static void read() {
        CHECK.sentence("Promise 25", "how many. BAD; NULL.");
        SmallFirst x = new SmallFirst();
        for (int s = 0; s < 4; s++) {
            CHECK.due("LOST: " + s, x.read(s), Check.NULL);
        }
        CHECK.due("NULL", x.count(8), 1);
        x.sheet(0, 2, 2);
        x.sheet(3, 2, 4);
        CHECK.due("sheet 0", x.read(0), 1);
        CHECK.due("sheet 3", x.read(3), 2);
        CHECK.due("sheet -1", x.read(-1), BAD);
        CHECK.due("sheet 4", x.read(4), BAD);
        CHECK.due("how many", x.count(5), 3);
    }

    // ---- STANDS, WATCH

    private static void standsInHowMany() {
        CHECK.sentence("Part 4", "in all SEEN, it came just if one of these lay at least: in how many of all 256");
        SmallFirst x = new SmallFirst();
        CHECK.due("nothing seen: all", x.stands(0, 0), 256);
        x.seen(255, 1);
        CHECK.due("all but the empty set", x.stands(0, 0), 255);
        CHECK.due("just the empty set", x.stands(1, 0), 1);
        x.seen(127, 1);
        CHECK.due("not h alone", x.stands(0, 0), 254);
        x.seen(128, 0);
        CHECK.due("not with h", x.stands(0, 0), 127);
        x.seen(0, 1);
        CHECK.due("it came by nothing: none", x.stands(0, 0), 0);
        SmallFirst y = new SmallFirst();
        y.seen(bits("abc"), 1);
        CHECK.due("one at least of three", y.stands(0, 0), 224);
        y.seen(bits("abc"), 1);
        CHECK.due("seen twice", y.stands(0, 0), 224);
        y.seen(bits("ab"), 0);
        CHECK.due("c, and neither a nor b", y.stands(0, 0), 32);
    }

    private static void standsFewest() {
        CHECK.sentence("Part 4", "the one with the fewest, of like ones the least bits; NONE.");
        SmallFirst x = new SmallFirst();
        CHECK.due("nothing seen: the empty set", x.stands(0, 1), 0);
        x.seen(bits("ab"), 1);
        CHECK.due("a is less than b", x.stands(0, 1), bits("a"));
        x.seen(bits("ac"), 1);
        x.seen(bits("bd"), 1);
        x.seen(bits("cd"), 1);
        CHECK.due("bc are less than ad", x.stands(0, 1), bits("bc"));
        x.seen(bits("b"), 0);
        CHECK.due("ad without b", x.stands(0, 1), bits("ad"));
        x.seen(bits("d"), 0);
        CHECK.due("none without b and d", x.stands(0, 1), NONE);
        CHECK.due("in how many", x.stands(0, 0), 0);
        SmallFirst y = new SmallFirst();
        y.seen(bits("abh"), 1);
        y.seen(bits("cdh"), 1);
        CHECK.due("h alone is fewer than ac", y.stands(0, 1), bits("h"));
    }

    private static void stands() {
        CHECK.sentence("Promise 26", "STANDS: in how many (what = 0), the set with the fewest (1; NONE). BAD.");
        SmallFirst x = new SmallFirst();
        x.seen(bits("a"), bits("A"));
        x.seen(bits("h"), bits("H"));
        CHECK.due("A", x.stands(0, 1), bits("a"));
        CHECK.due("H", x.stands(7, 1), bits("h"));
        CHECK.due("B", x.stands(1, 0), 64);
        CHECK.due("big -1", x.stands(-1, 0), BAD);
        CHECK.due("big 8", x.stands(8, 0), BAD);
        CHECK.due("what -1", x.stands(0, -1), BAD);
        CHECK.due("what 2", x.stands(7, 2), BAD);
        Check.type(x, 0, "b+A");
        x.first(255);
        CHECK.due("by neither laws nor FIRST", x.stands(0, 1), bits("a"));
    }

    private static void watchNearest() {
        CHECK.sentence("Part 4", "WATCH: the SMALL thing that is in nearest to half of these sets (by how far twice their number is from all), of like ones the least; NONE: there are none.");
        SmallFirst x = new SmallFirst();
        CHECK.due("nothing seen: all are alike", x.watch(0), 0);
        x.seen(bits("a"), 1);
        CHECK.due("a is in all, b in half", x.watch(0), 1);
        CHECK.due("a is in none, b in half", x.watch(1), 1);
        x.seen(bits("bcdefg"), 0);
        CHECK.due("h is left", x.watch(0), 7);
        x.seen(bits("h"), 0);
        CHECK.due("one set, a in it: as far as those in none", x.watch(0), 0);
        x.seen(bits("a"), 0);
        CHECK.due("there are none", x.watch(0), NONE);
        SmallFirst y = new SmallFirst();
        y.seen(255, 0);
        CHECK.due("the empty set alone: all are alike", y.watch(0), 0);
        SmallFirst z = new SmallFirst();
        z.seen(bits("gh"), 1);
        z.seen(bits("abcdef"), 0);
        CHECK.due("g and h are in two of three, nearer than those in none", z.watch(0), 6);
        SmallFirst above = new SmallFirst();
        above.seen(bits("ab"), 1);
        above.seen(bits("ac"), 1);
        above.seen(bits("defgh"), 0);
        CHECK.due("a in four of five, b in three of five", above.watch(0), 1);
    }

    private static void watch() {
        CHECK.sentence("Promise 27", "WATCH; NONE. BAD.");
        SmallFirst x = new SmallFirst();
        CHECK.due("A", x.watch(0), 0);
        CHECK.due("H", x.watch(7), 0);
        CHECK.due("-1", x.watch(-1), BAD);
        CHECK.due("8", x.watch(8), BAD);
        x.seen(0, 128);
        CHECK.due("none for H", x.watch(7), NONE);
        CHECK.due("all for G", x.watch(6), 0);
    }

    // ---- MOVED, CAT, LET

    private static void moved() {
        CHECK.sentence("Part 4", "MOVED: SMALL things each of which, if just it had been touched in FIRST, would have told BIG ones come in week 1 and no others (no LAYINGS)");
        SmallFirst x = Check.house(KEEP_LAWS, KEEP_DUST, "ab");
        CHECK.due("what comes without", x.moved(bits("AB")), 0);
        CHECK.due("a was swept", x.moved(bits("B")), bits("a"));
        CHECK.due("h was laid", x.moved(bits("ABH")), bits("h"));
        CHECK.due("told, and no others", x.moved(bits("A")), bits("b"));
        CHECK.due("two were moved", x.moved(0), 0);
        CHECK.due("two others", x.moved(bits("ABCD")), 0);
        x.lay(0, 0, 0);
        CHECK.due("no LAYINGS", x.moved(bits("B")), bits("a"));
        SmallFirst none = new SmallFirst();
        CHECK.due("each of all", none.moved(0), 255);
        CHECK.due("none of all", none.moved(255), 0);
        SmallFirst some = Check.house("a+A;b+A", "", "");
        CHECK.due("a or b", some.moved(bits("A")), bits("ab"));
        CHECK.due("the others", some.moved(0), bits("cdefgh"));
        CHECK.sentence("Promise 28", "MOVED, as bits. BAD (bits 0 to 255).");
        CHECK.due("255", Check.house(KEEP_LAWS, "", "abcdefg").moved(255), bits("h"));
        CHECK.due("-1", none.moved(-1), BAD);
        CHECK.due("256", none.moved(256), BAD);
    }

    private static void fraction(String row, SmallFirst x, int p, int big, int above, int below) {
        CHECK.due(row + ", above", x.cat(p, big, 0), above);
        CHECK.due(row + ", below", x.cat(p, big, 1), below);
    }

    private static void fractions() {
        CHECK.sentence("Terms", "FRACTIONS are told in lowest terms, above and below (0 by 1).");
        SmallFirst x = Check.house("a+A;b+B;c+B;d+B;e+B", "", "");
        fraction("0 by 1", x, 0, 0, 0, 1);
        fraction("0 by 1, whatever the cat does", x, 16, 7, 0, 1);
        fraction("1 by 128", x, 1, 0, 1, 128);
        fraction("2 by 128", x, 2, 0, 1, 64);
        fraction("3 by 128", x, 3, 0, 3, 128);
        fraction("12 by 128", x, 12, 0, 3, 32);
        fraction("16 by 128", x, 16, 0, 1, 8);
        fraction("4 by 128", x, 1, 1, 1, 32);
        fraction("64 by 128", x, 16, 1, 1, 2);
        x.first(bits("a"));
        fraction("128 by 128", x, 0, 0, 1, 1);
        fraction("127 by 128", x, 1, 0, 127, 128);
        fraction("112 by 128", x, 16, 0, 7, 8);
    }

    private static void cat() {
        CHECK.sentence("Part 4", "CAT: by p sixteenths (0 to 16) a cat touches one SMALL thing of FIRST, each alike, else none");
        SmallFirst x = Check.house("ab+A;h+H", "Ha", "a");
        fraction("p 0", x, 0, 0, 0, 1);
        fraction("p 16, b", x, 16, 0, 1, 8);
        fraction("p 8, b", x, 8, 0, 1, 16);
        fraction("H in week 1", x, 16, 7, 1, 8);
        x.lay(0, 1, 1);
        fraction("no LAYINGS", x, 0, 0, 0, 1);
        fraction("FIRST of two, each alike", Check.house("ab+A", "", "ab"), 16, 0, 3, 4);
        fraction("one is surely touched", Check.house(KEEP_LAWS, "", ""), 16, 0, 1, 8);
        fraction("one for all", Check.house("a+A;b+A;c+A;d+A;e+A;f+A;g+A;h+A", "", ""), 16, 0, 1, 1);
        fraction("half of the time", Check.house("a+A;b+A;c+A;d+A;e+A;f+A;g+A;h+A", "", ""), 8, 0, 1, 2);
        CHECK.sentence("Promise 29", "CAT: above, below. BAD. (As the least long.)");
        CHECK.due("p -1", x.cat(-1, 0, 0), Long.MIN_VALUE + 2);
        CHECK.due("p 17", x.cat(17, 0, 1), Long.MIN_VALUE + 2);
        CHECK.due("big -1", x.cat(0, -1, 0), Long.MIN_VALUE + 2);
        CHECK.due("big 8", x.cat(16, 8, 1), Long.MIN_VALUE + 2);
        CHECK.due("what -1", x.cat(0, 0, -1), Long.MIN_VALUE + 2);
        CHECK.due("what 2", x.cat(16, 7, 2), Long.MIN_VALUE + 2);
    }

    private static void let() {
        CHECK.sentence("Part 4", "LET: 1: it is less likely than without the cat.");
        SmallFirst x = Check.house("a+A;b+B;a+C;c+C;d+D;e-D", "", "acd");
        CHECK.due("by one sixteenth", x.let(1, 0), 1);
        CHECK.due("by sixteen", x.let(16, 0), 1);
        CHECK.due("by none it is alike", x.let(0, 0), 0);
        CHECK.due("more likely", x.let(16, 1), 0);
        CHECK.due("alike, as one of two stays", x.let(16, 2), 0);
        CHECK.due("by what bars", x.let(1, 3), 1);
        CHECK.due("alike, as it never comes", x.let(16, 7), 0);
        x.lay(0, 1, 1);
        x.first(bits("b"));
        x.lay(0, 1, 0);
        CHECK.due("no LAYINGS", x.let(1, 1), 1);
        CHECK.sentence("Promise 30", "LET. BAD.");
        CHECK.due("p -1", x.let(-1, 0), BAD);
        CHECK.due("p 17", x.let(17, 0), BAD);
        CHECK.due("big -1", x.let(0, -1), BAD);
        CHECK.due("big 8", x.let(16, 8), BAD);
        CHECK.due("big 7", x.let(16, 7), 0);
    }

    // ---- LOT

    // What is touched lies behind one week, as each thing keeps itself. Behind the seed -1 comes -1103502900,
    // below 0: its upper 16 bits are 48697 as a number from 0 on, which is 1 modulo 8.
    private static void lotsThatWrap() {
        CHECK.sentence("Terms", "SEED becomes 1103515245 SEED and 12345, as ints that wrap; its upper 16 bits as a number from 0 on, modulo m.");
        SmallFirst x = Check.house(KEEP_LAWS, KEEP_DUST, "");
        int[][] lots = {{0, 0}, {1, 6}, {-1, 1}, {2, 4}, {3, 3}, {4, 1}, {5, 7}, {6, 6}, {7, 4}, {8, 2}, {11, 5}, {22, 2},
            {-2, 3}, {-3, 5}, {Check.LEAST, 0}, {Check.MOST, 1}};
        for (int[] lot : lots) {
            CHECK.due("of the seed " + lot[0], x.lot(lot[0], 1, NONE), 1 << lot[1]);
            for (int big = 0; big < 8; big++) {
                CHECK.due("of the seed " + lot[0] + ", " + big, x.lot(lot[0], 1, big), big == lot[1] ? 1 : 0);
            }
        }
        long seed = 7;
        int set = 0;
        for (int n = 1; n <= 99; n++) {
            seed = Math.floorMod(1103515245L * seed + 12345L, 4294967296L);
            set ^= 1 << (int) (seed / 65536 % 8);
            CHECK.due("of the seed 7, behind " + n, x.lot(7, n, NONE), set);
        }
    }

    private static void lotWeeks() {
        CHECK.sentence("Part 4", "LOT by a SEED: from FIRST on, in each of n (0 to 99) weeks a LOT of 8 touches one SMALL thing, then LAYS of what COMES are the next week's (no LAYINGS)");
        SmallFirst x = Check.house("a+A;h+H", "Ah;Ha", "bh");
        CHECK.due("no week: FIRST", x.lot(0, 0, NONE), bits("bh"));
        CHECK.due("no week: none came", x.lot(0, 0, 7), 0);
        CHECK.due("a is touched, A and H come", x.lot(0, 1, NONE), bits("ah"));
        CHECK.due("A came", x.lot(0, 1, 0), 1);
        CHECK.due("H came", x.lot(0, 1, 7), 1);
        CHECK.due("B did not", x.lot(0, 1, 1), 0);
        x.first(bits("a"));
        CHECK.due("a is touched and so swept", x.lot(0, 1, 0), 0);
        x.first(bits("bh"));
        x.lay(0, 7, 0);
        x.lay(1, 2, 1);
        CHECK.due("no LAYINGS", x.lot(0, 1, NONE), bits("ah"));
        CHECK.due("FIRST stays", x.count(7), bits("bh"));
        SmallFirst always = Check.house("a+A;b+A;c+A;d+A;e+A;f+A;g+A;h+A", "Aa;Ab;Ac", "a");
        CHECK.due("in each of 99 weeks", always.lot(3, 99, 0), 99);
        CHECK.due("in each of 98 weeks", always.lot(3, 98, 0), 98);
        SmallFirst none = new SmallFirst();
        none.first(255);
        CHECK.due("no laws, a week", none.lot(0, 1, NONE), 0);
        CHECK.due("no laws, no week", none.lot(0, 0, NONE), 255);
    }

    private static void lot() {
        CHECK.sentence("Promise 31", "LOT: SMALL things (big = NONE), how many weeks a BIG one came. BAD.");
        SmallFirst x = Check.house(KEEP_LAWS, KEEP_DUST, "");
        CHECK.due("n -1", x.lot(0, -1, 0), BAD);
        CHECK.due("n 100", x.lot(0, 100, 0), BAD);
        CHECK.due("n -1, small", x.lot(0, -1, NONE), BAD);
        CHECK.due("n 100, small", x.lot(0, 100, NONE), BAD);
        CHECK.due("big -2", x.lot(0, 0, -2), BAD);
        CHECK.due("big 8", x.lot(0, 99, 8), BAD);
        CHECK.due("big 7, n 0", x.lot(0, 0, 7), 0);
        CHECK.holds("n 99", x.lot(0, 99, 0) >= 0);
    }
}
