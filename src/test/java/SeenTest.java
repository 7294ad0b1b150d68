/** Promises 23 to 31: what was seen, what it may mean, what was moved, cats and lots. */
public final class SeenTest {
    private static final Check CHECK = new Check("SeenTest");

    public static void main(String[] args) {
        seen();
        forget();
        read();
        readStopsWhereOneMayNotBe();
        stands();
        watch();
        moved();
        cat();
        let();
        lot();
        CHECK.end();
    }

    private static void seen() {
        SmallFirst x = new SmallFirst();
        CHECK.due("23: small -1", x.seen(-1, 0), SmallFirst.BAD);
        CHECK.due("23: small 256", x.seen(256, 0), SmallFirst.BAD);
        CHECK.due("23: big -1", x.seen(0, -1), SmallFirst.BAD);
        CHECK.due("23: big 256", x.seen(0, 256), SmallFirst.BAD);
        CHECK.due("23: none yet", x.count(5), 0);
        for (int n = 1; n <= 8; n++) {
            CHECK.due("23: seen " + n, x.seen(255, n == 8 ? 0 : 255), n);
        }
        CHECK.due("23: the eighth counts", x.stands(0, 0), 0);
        CHECK.due("23: full", x.seen(0, 0), SmallFirst.FULL);
        CHECK.due("23: BAD ahead of FULL", x.seen(256, 0), SmallFirst.BAD);
        CHECK.due("23: still eight", x.count(5), 8);
    }

    private static void forget() {
        SmallFirst x = new SmallFirst();
        CHECK.due("24: none", x.forget(), 0);
        x.seen(1, 1);
        x.seen(2, 0);
        CHECK.due("24: two", x.forget(), 2);
        CHECK.due("24: they are gone", x.count(5), 0);
        CHECK.due("24: all may stand again", x.stands(0, 0), 256);
        CHECK.due("24: seen again", x.seen(4, 1), 1);
        CHECK.due("24: just that", x.stands(0, 1), 4);
    }

    private static void read() {
        SmallFirst x = new SmallFirst();
        CHECK.due("25: sheet -1", x.read(-1), SmallFirst.BAD);
        CHECK.due("25: sheet 4", x.read(4), SmallFirst.BAD);
        CHECK.due("25: lost", x.read(0), -11);
        CHECK.due("25: NULL is found", x.count(8), 1);
        x.sheet(0, 0, 0);
        CHECK.due("25: an empty one", x.read(0), 0);
        x.sheet(0, 0, 1);
        CHECK.due("25: a half", x.read(0), 0);
        x.sheet(0, 0, 2);
        CHECK.due("25: just one", x.read(0), 1);
        x.forget();
        x.sheet(0, 0, 5);
        x.put(0, 0, 0, 1);
        x.put(0, 0, 1, 1);
        x.put(0, 0, 2, 6);
        x.put(0, 0, 3, 2);
        CHECK.due("25: two and a half", x.read(0), 2);
        CHECK.due("25: both are seen", x.count(5), 2);
        CHECK.due("25: by them a stands for A", x.stands(0, 1), 1);
        CHECK.due("25: by them b stands for B", x.stands(1, 1), 2);
        CHECK.due("25: once more", x.read(0), 2);
        CHECK.due("25: behind the others", x.count(5), 4);
        CHECK.due("25: a third time", x.read(0), 2);
        x.seen(0, 0);
        CHECK.due("25: until it is full", x.read(0), 1);
        CHECK.due("25: full", x.count(5), 8);
        CHECK.due("25: none more", x.read(0), 0);
        CHECK.due("25: no new finding", x.count(8), 1);
    }

    private static void readStopsWhereOneMayNotBe() {
        for (int form = 1; form <= 2; form++) {
            SmallFirst x = new SmallFirst();
            x.sheet(3, form, 8);
            x.put(3, form, 1, 255);
            x.put(3, form, 2, 255);
            x.put(3, form, 5, 256);
            CHECK.due("25: the third may not be", x.read(3), 2);
            x.put(3, form, 5, -1);
            CHECK.due("25: nor with -1", x.read(3), 2);
            x.put(3, form, 5, 0);
            x.put(3, form, 4, 256);
            CHECK.due("25: nor its small ones", x.read(3), 2);
            CHECK.due("25: six are seen", x.count(5), 6);
        }
        SmallFirst y = new SmallFirst();
        y.sheet(0, 0, 2);
        y.put(0, 0, 0, 255);
        CHECK.due("25: as a byte 255 is -1", y.read(0), 0);
    }

    private static void stands() {
        SmallFirst x = new SmallFirst();
        CHECK.due("26: nothing seen", x.stands(0, 0), 256);
        CHECK.due("26: nothing seen, the fewest", x.stands(0, 1), 0);
        x.seen(Check.bits("bc"), Check.bits("A"));
        CHECK.due("26: b or c", x.stands(0, 0), 192);
        CHECK.due("26: of like ones the least", x.stands(0, 1), Check.bits("b"));
        CHECK.due("26: neither, for B", x.stands(1, 0), 64);
        x.seen(Check.bits("de"), Check.bits("AH"));
        x.seen(Check.bits("bd"), Check.bits("A"));
        CHECK.due("26: two of them", x.stands(0, 1), Check.bits("bd"));
        x.seen(Check.bits("b"), Check.bits("B"));
        CHECK.due("26: not b", x.stands(0, 1), Check.bits("cd"));
        CHECK.due("26: c and d, not b, five others or not", x.stands(0, 0), 32);
        CHECK.due("26: B is not by b", x.stands(1, 0), 0);
        CHECK.due("26: none for B", x.stands(1, 1), SmallFirst.NONE);
        CHECK.due("26: e for H", x.stands(7, 1), Check.bits("e"));
        SmallFirst y = new SmallFirst();
        y.seen(Check.bits("ac"), Check.bits("A"));
        y.seen(Check.bits("bc"), Check.bits("A"));
        CHECK.due("26: c, though a and b are less as bits", y.stands(0, 1), Check.bits("c"));
        CHECK.due("26: big -1", x.stands(-1, 0), SmallFirst.BAD);
        CHECK.due("26: big 8", x.stands(8, 0), SmallFirst.BAD);
        CHECK.due("26: what -1", x.stands(0, -1), SmallFirst.BAD);
        CHECK.due("26: what 2", x.stands(0, 2), SmallFirst.BAD);
    }

    private static void watch() {
        SmallFirst x = new SmallFirst();
        CHECK.due("27: each in half of all", x.watch(0), 0);
        x.seen(Check.bits("ab"), Check.bits("A"));
        CHECK.due("27: a and b are in two of three", x.watch(0), 2);
        CHECK.due("27: a and b are in none", x.watch(1), 2);
        x.seen(Check.bits("cdefgh"), 0);
        CHECK.due("27: only a and b are left", x.watch(0), 0);
        CHECK.due("27: nothing is left", x.watch(1), 0);
        x.seen(Check.bits("a"), Check.bits("A"));
        CHECK.due("27: a is known", x.watch(0), 1);
        x.seen(Check.bits("b"), 0);
        CHECK.due("27: just one set, a in it, others not", x.watch(0), 0);
        x.seen(Check.bits("a"), 0);
        CHECK.due("27: there are none", x.watch(0), SmallFirst.NONE);
        CHECK.due("27: big -1", x.watch(-1), SmallFirst.BAD);
        CHECK.due("27: big 8", x.watch(8), SmallFirst.BAD);
        SmallFirst y = new SmallFirst();
        y.seen(Check.bits("abc"), Check.bits("H"));
        y.seen(Check.bits("defgh"), 0);
        y.seen(Check.bits("ab"), Check.bits("H"));
        CHECK.due("27: c is in half of six", y.watch(7), 2);
        SmallFirst z = new SmallFirst();
        z.seen(Check.bits("bcdefgh"), Check.bits("A"));
        z.seen(Check.bits("a"), 0);
        CHECK.due("27: a is in none, b in 64 of 127", z.watch(0), 1);
    }

    private static void moved() {
        SmallFirst x = Check.house("a+A;b+B;c-A;bd+A", "");
        x.first(Check.bits("ab"));
        CHECK.due("28: a and b came", x.moved(3), Check.bits("defgh"));
        CHECK.due("28: just A", x.moved(1), Check.bits("b"));
        CHECK.due("28: just B", x.moved(2), Check.bits("ac"));
        CHECK.due("28: none came", x.moved(0), 0);
        CHECK.due("28: C", x.moved(7), 0);
        x.lay(0, 0, 0);
        CHECK.due("28: no layings", x.moved(1), Check.bits("b"));
        CHECK.due("28: -1", x.moved(-1), SmallFirst.BAD);
        CHECK.due("28: 256", x.moved(256), SmallFirst.BAD);
        CHECK.due("28: all", new SmallFirst().moved(0), 255);
    }

    private static void cat() {
        SmallFirst x = Check.house("a+A;ab+B;c-A", "");
        x.first(1);
        fraction("without it", x, 0, 0, 1, 1);
        fraction("surely", x, 16, 0, 3, 4);
        fraction("half", x, 8, 0, 7, 8);
        fraction("by one sixteenth", x, 1, 0, 63, 64);
        fraction("B by b", x, 16, 1, 1, 8);
        fraction("B by b, one sixteenth", x, 1, 1, 1, 128);
        fraction("B by b, three sixteenths", x, 3, 1, 3, 128);
        fraction("B without it", x, 0, 1, 0, 1);
        fraction("C", x, 16, 2, 0, 1);
        x.lay(0, 0, 0);
        fraction("no layings", x, 0, 0, 1, 1);
        CHECK.due("29: p -1", x.cat(-1, 0, 0), Check.LEAST_LONG_BAD);
        CHECK.due("29: p 17", x.cat(17, 0, 0), Check.LEAST_LONG_BAD);
        CHECK.due("29: big -1", x.cat(0, -1, 0), Check.LEAST_LONG_BAD);
        CHECK.due("29: big 8", x.cat(0, 8, 0), Check.LEAST_LONG_BAD);
        CHECK.due("29: what -1", x.cat(0, 0, -1), Check.LEAST_LONG_BAD);
        CHECK.due("29: what 2", x.cat(0, 0, 2), Check.LEAST_LONG_BAD);
    }

    private static void fraction(String name, SmallFirst x, int p, int big, int above, int below) {
        CHECK.due("29: above, " + name, x.cat(p, big, 0), above);
        CHECK.due("29: below, " + name, x.cat(p, big, 1), below);
    }

    private static void let() {
        SmallFirst x = Check.house("a+A;b+B;a+C;b+C", "");
        x.first(Check.bits("a"));
        CHECK.due("30: A is less likely", x.let(1, 0), 1);
        CHECK.due("30: without chance it is not", x.let(0, 0), 0);
        CHECK.due("30: B is more likely", x.let(16, 1), 0);
        CHECK.due("30: D is as likely", x.let(16, 3), 0);
        x.first(Check.bits("ab"));
        CHECK.due("30: C is as likely", x.let(16, 2), 0);
        x.first(0);
        x.lay(0, 0, 1);
        CHECK.due("30: no layings", x.let(16, 0), 0);
        CHECK.due("30: p -1", x.let(-1, 0), SmallFirst.BAD);
        CHECK.due("30: p 17", x.let(17, 0), SmallFirst.BAD);
        CHECK.due("30: big -1", x.let(0, -1), SmallFirst.BAD);
        CHECK.due("30: big 8", x.let(0, 8), SmallFirst.BAD);
    }

    // The seed 0 becomes 12345, whose upper 16 bits are 0, then -740551042, with 54236, which is 4 modulo 8.
    private static void lot() {
        SmallFirst x = Check.house("a+A;e+E;c+C", "Ac;Eb;Cc");
        x.first(Check.bits("h"));
        CHECK.due("31: no week", x.lot(0, 0, SmallFirst.NONE), Check.bits("h"));
        CHECK.due("31: no week, none came", x.lot(0, 0, 0), 0);
        CHECK.due("31: a is touched", x.lot(0, 1, SmallFirst.NONE), Check.bits("c"));
        CHECK.due("31: A came", x.lot(0, 1, 0), 1);
        CHECK.due("31: then e", x.lot(0, 2, SmallFirst.NONE), Check.bits("bc"));
        CHECK.due("31: A came once", x.lot(0, 2, 0), 1);
        CHECK.due("31: E came once", x.lot(0, 2, 4), 1);
        CHECK.due("31: C came once", x.lot(0, 2, 2), 1);
        x.first(Check.bits("ah"));
        CHECK.due("31: a is swept", x.lot(0, 1, SmallFirst.NONE), 0);
        CHECK.due("31: A did not come", x.lot(0, 1, 0), 0);
        x.first(Check.bits("h"));
        x.lay(0, 0, 1);
        x.lay(1, 2, 0);
        CHECK.due("31: no layings", x.lot(0, 1, SmallFirst.NONE), Check.bits("c"));
        CHECK.due("31: 99 weeks", x.lot(-1, 99, 7), 0);
        CHECK.due("31: n -1", x.lot(0, -1, 0), SmallFirst.BAD);
        CHECK.due("31: n 100", x.lot(0, 100, 0), SmallFirst.BAD);
        CHECK.due("31: big -2", x.lot(0, 0, -2), SmallFirst.BAD);
        CHECK.due("31: big 8", x.lot(0, 0, 8), SmallFirst.BAD);
        CHECK.due("31: FIRST stays", x.count(7), 128);
        manyLots();
    }

    private static void manyLots() {
        String laws = "a+A;b+B;c+C;d+D;e+E;f+F;g+G;h+H";
        String dust = "Ab;Bc;Cd;De;Ef;Fg;Gh;Ha";
        SmallFirst x = Check.house(laws, dust);
        Plain plain = new Plain();
        plain.typeAll(0, laws);
        plain.typeAll(1, dust);
        for (int seed : new int[] {Integer.MIN_VALUE, -1, 0, 1, 7, 65536, Integer.MAX_VALUE}) {
            for (int n = 0; n <= 99; n += 11) {
                CHECK.due("31: of seed " + seed, x.lot(seed, n, -1), plain.lot(seed, n, -1));
                CHECK.due("31: H by seed " + seed, x.lot(seed, n, 7), plain.lot(seed, n, 7));
            }
        }
    }
}
