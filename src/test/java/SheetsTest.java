/** Promises 32 to 39: sheets, counts and the digest. */
public final class SheetsTest {
    private static final Check CHECK = new Check("SheetsTest");
    private static final int LEAST = Integer.MIN_VALUE;

    public static void main(String[] args) {
        sheet();
        lose();
        put();
        get();
        copy();
        copyRefused();
        write();
        count();
        findings();
        digest();
        CHECK.end();
    }

    private static void sheet() {
        SmallFirst x = new SmallFirst();
        CHECK.due("32: sheet -1", x.sheet(-1, 0, 1), SmallFirst.BAD);
        CHECK.due("32: sheet 4", x.sheet(4, 0, 1), SmallFirst.BAD);
        CHECK.due("32: form -1", x.sheet(0, -1, 1), SmallFirst.BAD);
        CHECK.due("32: form 3", x.sheet(0, 3, 1), SmallFirst.BAD);
        CHECK.due("32: 61 items", x.sheet(0, 0, 61), SmallFirst.BAD);
        CHECK.due("32: nothing was found", x.count(8), 0);
        CHECK.due("32: BAD ahead of SIZE", x.sheet(0, 3, -1), SmallFirst.BAD);
        CHECK.due("32: below 0", x.sheet(0, 0, -1), -15);
        CHECK.due("32: SIZE is found", x.count(8), 5);
        CHECK.due("32: the least int", x.sheet(0, 0, LEAST), -15);
        CHECK.due("32: still lost", x.lose(0), -11);
        CHECK.due("32: 60 items", x.sheet(3, 2, 60), 60);
        CHECK.due("32: item 59", x.put(3, 2, 59, 7), 1);
        CHECK.due("32: no items", x.sheet(0, 0, 0), 0);
        CHECK.due("32: no item 0", x.put(0, 0, 0, 1), -12);
        CHECK.due("32: refused", x.sheet(3, 0, -1), -15);
        CHECK.due("32: it is as it was", x.get(3, 2, 59), 7);
        CHECK.due("32: anew", x.sheet(3, 2, 60), 60);
        CHECK.due("32: its items are 0", x.get(3, 2, 59), 0);
        x.put(3, 2, 0, 8);
        CHECK.due("32: anew, shorter", x.sheet(3, 2, 1), 1);
        CHECK.due("32: its only item is 0", x.get(3, 2, 0), 0);
        CHECK.due("32: of another form", x.sheet(3, 1, 5), 5);
        CHECK.due("32: it is of that form", x.get(3, 1, 4), 0);
    }

    private static void lose() {
        SmallFirst x = new SmallFirst();
        x.sheet(2, 0, 9);
        CHECK.due("33: sheet -1", x.lose(-1), SmallFirst.BAD);
        CHECK.due("33: sheet 4", x.lose(4), SmallFirst.BAD);
        CHECK.due("33: nine items", x.lose(2), 9);
        CHECK.due("33: lost already", x.lose(2), -11);
        CHECK.due("33: NULL is found", x.count(8), 1);
        x.sheet(2, 0, 0);
        CHECK.due("33: an empty one", x.lose(2), 0);
    }

    private static void put() {
        SmallFirst x = new SmallFirst();
        CHECK.due("34: lost", x.put(1, 0, 0, 0), -11);
        x.sheet(1, 1, 3);
        CHECK.due("34: sheet -1", x.put(-1, 1, 0, 0), SmallFirst.BAD);
        CHECK.due("34: sheet 4", x.put(4, 1, 0, 0), SmallFirst.BAD);
        CHECK.due("34: form -1", x.put(1, -1, 0, 0), SmallFirst.BAD);
        CHECK.due("34: form 3", x.put(1, 3, 0, 0), SmallFirst.BAD);
        CHECK.due("34: BAD ahead of NULL", x.put(0, 3, 0, 0), SmallFirst.BAD);
        CHECK.due("34: CAST", x.put(1, 0, 0, 0), -13);
        CHECK.due("34: CAST to ints", x.put(1, 2, 0, 0), -13);
        CHECK.due("34: CAST ahead of INDEX", x.put(1, 2, 3, 0), -13);
        CHECK.due("34: INDEX -1", x.put(1, 1, -1, 0), -12);
        CHECK.due("34: INDEX 3", x.put(1, 1, 3, 0), -12);
        CHECK.due("34: INDEX, the most", x.put(1, 1, Integer.MAX_VALUE, 0), -12);
        CHECK.due("34: INDEX, the least", x.put(1, 1, LEAST, 0), -12);
        CHECK.due("34: the last item", x.put(1, 1, 2, 5), 1);
        CHECK.due("34: it is there", x.get(1, 1, 2), 5);
        kept(0, 127, 127);
        kept(0, 128, -128);
        kept(0, 255, -1);
        kept(0, 256, 0);
        kept(1, 255, 255);
        kept(1, 32767, 32767);
        kept(1, 32768, -32768);
        kept(1, 65536, 0);
        kept(2, 65536, 65536);
        kept(2, -5, -5);
        kept(2, Integer.MAX_VALUE, Integer.MAX_VALUE);
    }

    private static void kept(int form, int v, int want) {
        SmallFirst x = new SmallFirst();
        x.sheet(0, form, 1);
        CHECK.due("34: put " + v, x.put(0, form, 0, v), 1);
        CHECK.due("34: kept of form " + form + " is " + v, x.get(0, form, 0), want);
    }

    private static void get() {
        SmallFirst x = new SmallFirst();
        CHECK.due("35: sheet -1", x.get(-1, 0, 0), LEAST);
        CHECK.due("35: sheet 4", x.get(4, 0, 0), LEAST);
        CHECK.due("35: form -1", x.get(0, -1, 0), LEAST);
        CHECK.due("35: form 3", x.get(0, 3, 0), LEAST);
        CHECK.due("35: BAD is no finding", x.count(8), 0);
        CHECK.due("35: lost", x.get(0, 0, 0), LEAST);
        CHECK.due("35: NULL", x.count(8), 1);
        x.sheet(0, 2, 2);
        x.put(0, 2, 0, 40);
        x.put(0, 2, 1, 41);
        CHECK.due("35: item 0", x.get(0, 2, 0), 40);
        CHECK.due("35: item 1", x.get(0, 2, 1), 41);
        CHECK.due("35: no item -1", x.get(0, 2, -1), LEAST);
        CHECK.due("35: INDEX", x.count(8), 2);
        CHECK.due("35: another form", x.get(0, 1, 0), LEAST);
        CHECK.due("35: CAST", x.count(8), 3);
        CHECK.due("35: no item 2", x.get(0, 2, 2), LEAST);
        CHECK.due("35: INDEX again", x.count(8), 2);
        CHECK.due("35: both", x.get(0, 1, 2), LEAST);
        CHECK.due("35: CAST ahead of INDEX", x.count(8), 3);
    }

    private static SmallFirst oneToFive() {
        SmallFirst x = new SmallFirst();
        x.sheet(0, 1, 5);
        for (int i = 0; i < 5; i++) {
            x.put(0, 1, i, i + 1);
        }
        return x;
    }

    private static int items(SmallFirst x, int s, int form, int n) {
        int all = 0;
        for (int i = 0; i < n; i++) {
            all = all * 10 + x.get(s, form, i);
        }
        return all;
    }

    private static void copy() {
        SmallFirst x = oneToFive();
        x.sheet(1, 1, 3);
        CHECK.due("36: two of them", x.copy(0, 3, 1, 1, 2), 1);
        CHECK.due("36: there", items(x, 1, 1, 3), 45);
        CHECK.due("36: as it was", items(x, 0, 1, 5), 12345);
        CHECK.due("36: upwards", x.copy(0, 0, 0, 1, 4), 1);
        CHECK.due("36: as they were", items(x, 0, 1, 5), 11234);
        CHECK.due("36: downwards", x.copy(0, 2, 0, 0, 3), 1);
        CHECK.due("36: as they were, too", items(x, 0, 1, 5), 23434);
        CHECK.due("36: none, at the end", x.copy(0, 5, 1, 3, 0), 1);
        CHECK.due("36: all", x.copy(0, 0, 0, 0, 5), 1);
    }

    private static void copyRefused() {
        SmallFirst x = oneToFive();
        CHECK.due("36: t is lost", x.copy(0, 0, 1, 0, 1), -11);
        CHECK.due("36: s is lost", x.copy(1, 0, 0, 0, 1), -11);
        x.sheet(1, 1, 3);
        x.sheet(2, 2, 3);
        CHECK.due("36: sheet -1", x.copy(-1, 0, 0, 0, 1), SmallFirst.BAD);
        CHECK.due("36: sheet 4", x.copy(0, 0, 4, 0, 1), SmallFirst.BAD);
        CHECK.due("36: BAD ahead of NULL", x.copy(3, 0, 4, 0, 1), SmallFirst.BAD);
        CHECK.due("36: NULL ahead of STORE", x.copy(2, 0, 3, 0, 1), -11);
        CHECK.due("36: STORE", x.copy(0, 0, 2, 0, 1), -14);
        CHECK.due("36: STORE is found", x.count(8), 4);
        CHECK.due("36: STORE with no items", x.copy(0, 0, 2, 0, 0), -14);
        CHECK.due("36: STORE ahead of INDEX", x.copy(0, -1, 2, 0, 1), -14);
        CHECK.due("36: i below 0", x.copy(0, -1, 1, 0, 1), -12);
        CHECK.due("36: j below 0", x.copy(0, 0, 1, -1, 1), -12);
        CHECK.due("36: n below 0", x.copy(0, 0, 1, 0, -1), -12);
        CHECK.due("36: s has not so many", x.copy(0, 3, 1, 0, 3), -12);
        CHECK.due("36: t has not so many", x.copy(0, 0, 1, 1, 3), -12);
        CHECK.due("36: none, behind the end", x.copy(0, 6, 1, 0, 0), -12);
        CHECK.due("36: the most", x.copy(0, 1, 1, 1, Integer.MAX_VALUE), -12);
        CHECK.due("36: from the most", x.copy(0, Integer.MAX_VALUE, 1, 0, 1), -12);
        CHECK.due("36: to the least", x.copy(0, 0, 1, LEAST, 1), -12);
        CHECK.due("36: nothing changed", items(x, 0, 1, 5) + items(x, 1, 1, 3), 12345);
    }

    private static void write() {
        SmallFirst x = Check.house("a+B;b+C", "Bb;Ch;Ca");
        x.first(1);
        x.lay(1, 3, 1);
        CHECK.due("37: lost", x.write(0, 0), -11);
        x.sheet(0, 2, 3);
        CHECK.due("37: what -1", x.write(-1, 0), SmallFirst.BAD);
        CHECK.due("37: what 2", x.write(2, 0), SmallFirst.BAD);
        CHECK.due("37: sheet -1", x.write(0, -1), SmallFirst.BAD);
        CHECK.due("37: sheet 4", x.write(0, 4), SmallFirst.BAD);
        CHECK.due("37: BAD ahead of NULL", x.write(2, 1), SmallFirst.BAD);
        CHECK.due("37: small ones", x.write(0, 0), 3);
        CHECK.due("37: week 0", x.get(0, 2, 0), Check.bits("a"));
        CHECK.due("37: week 1", x.get(0, 2, 1), Check.bits("bd"));
        CHECK.due("37: week 2", x.get(0, 2, 2), Check.bits("ah"));
        CHECK.due("37: big ones", x.write(1, 0), 3);
        CHECK.due("37: none in week 0", x.get(0, 2, 0), 0);
        CHECK.due("37: B in week 1", x.get(0, 2, 1), Check.bits("B"));
        CHECK.due("37: C in week 2", x.get(0, 2, 2), Check.bits("C"));
        x.sheet(1, 0, 4);
        CHECK.due("37: as bytes", x.write(0, 1), 4);
        CHECK.due("37: the lowest bits", x.get(1, 0, 2), (byte) Check.bits("ah"));
        x.sheet(2, 1, 60);
        x.put(2, 1, 30, 77);
        CHECK.due("37: 30 at most", x.write(0, 2), 30);
        CHECK.due("37: the last week", x.get(2, 1, 29), x.week(29, 0));
        CHECK.due("37: behind it nothing changes", x.get(2, 1, 30), 77);
        x.sheet(3, 0, 0);
        CHECK.due("37: no items", x.write(0, 3), 0);
    }

    private static void count() {
        SmallFirst x = Check.house("a+A;b-A;c+C", "Aa;Bb");
        x.lay(0, 0, 1);
        x.lay(1, 0, 1);
        x.lay(2, 0, 1);
        x.lay(2, 1, 1);
        x.seen(1, 1);
        x.first(200);
        int[] want = {3, 2, 11, 5, 4, 1, 2, 200, 0};
        for (int what = 0; what < want.length; what++) {
            CHECK.due("38: count(" + what + ")", x.count(what), want[what]);
        }
        CHECK.due("38: -1", x.count(-1), SmallFirst.BAD);
        CHECK.due("38: 9", x.count(9), SmallFirst.BAD);
    }

    private static void findings() {
        SmallFirst x = new SmallFirst();
        x.read(0);
        CHECK.due("38: NULL", x.count(8), 1);
        x.sheet(0, 0, 2);
        x.put(0, 0, 2, 0);
        CHECK.due("38: INDEX", x.count(8), 2);
        x.put(0, 1, 0, 0);
        CHECK.due("38: CAST", x.count(8), 3);
        x.sheet(1, 1, 2);
        x.copy(0, 0, 1, 0, 1);
        CHECK.due("38: STORE", x.count(8), 4);
        x.sheet(1, 1, -2);
        CHECK.due("38: SIZE", x.count(8), 5);
        x.undo(0);
        x.type(3, 3);
        x.put(0, 0, 0, 0);
        CHECK.due("38: others don't change it", x.count(8), 5);
    }

    private static void digest() {
        SmallFirst empty = new SmallFirst();
        long h = empty.digest();
        CHECK.due("39: as the plain reading has it", h, new Plain().digest());
        CHECK.due("39: it changes nothing", empty.digest(), h);
        empty.read(0);
        empty.sheet(1, 1, 1);
        CHECK.due("39: sheets and findings are not in it", empty.digest(), h);
        empty.first(64);
        CHECK.holds("39: FIRST is in it", empty.digest() != h);
        SmallFirst x = Check.house("ab+A;c+B;d-B;cd+H;ef+C;a-C", "Aa;Bb;Ca;Hc");
        Plain p = new Plain();
        p.typeAll(0, "ab+A;c+B;d-B;cd+H;ef+C;a-C");
        p.typeAll(1, "Aa;Bb;Ca;Hc");
        x.first(47);
        p.first(47);
        x.lay(1, 3, 1);
        p.lay(1, 3, 1);
        x.lay(9, 6, 1);
        p.lay(9, 6, 1);
        x.seen(6, 3);
        p.seen(6, 3);
        CHECK.due("39: of a full house", x.digest(), p.digest());
        x.type(0, ';');
        p.type(0, ';');
        CHECK.due("39: with a fault", x.digest(), p.digest());
        digestOf("a+B;b+C;c+D;d+E;e+F;f+G;g+H;h+A", "Aa;Bb;Cc;Dd;Ee;Ff;Gg;Hh", 3);
        digestOf("a+A;b+B;c+C;d+D;e+E;f+F;g+G;h+H", "Ab;Bc;Cd;De;Ea;Fg;Gf;Ha", 200);
        digestOf("ab+A;bc+B;cd+C;de+D;ef+E;a-C;fg+F;gh+G;b-G;ah+H", "Aa;Ab;Bc;Cd;De;Ef;Fg;Gh;Ha;Hb", 255);
        digestOf("d+D;c+C;b+B", "Dc;Cb;Ba;Bd", 8);
        digestOf("a+A;b+B;c+C;d+D;e+E", "Ab;Ba;Cd;De;Ec", 5);
        digestOf("a+A;b+B;c+C;d+D", "Ad;Da;Bb;Cc", 5);
        digestOf("a+A;b+A;c-A;d-A;e+B;f-B", "Ae;Bf;Ba", 179);
    }

    private static void digestOf(String laws, String dust, int first) {
        SmallFirst x = Check.house(laws, dust);
        Plain p = new Plain();
        p.typeAll(0, laws);
        p.typeAll(1, dust);
        x.first(first);
        p.first(first);
        CHECK.due("39: of " + laws + " and " + dust, x.digest(), p.digest());
    }
}
