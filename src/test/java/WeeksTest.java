/** Promises 9 to 16: what comes, what lies, and the weeks that are run. */
public final class WeeksTest {
    private static final Check CHECK = new Check("WeeksTest");

    public static void main(String[] args) {
        comes();
        lays();
        lay();
        back();
        week();
        judged();
        two();
        second();
        CHECK.end();
    }

    private static void comes() {
        SmallFirst x = Check.house("a+A;bc+B;d-B;h-H;g+H", "");
        CHECK.due("9: nothing lies", x.comes(0), 0);
        CHECK.due("9: a", x.comes(Check.bits("a")), Check.bits("A"));
        CHECK.due("9: b alone", x.comes(Check.bits("b")), 0);
        CHECK.due("9: b and c", x.comes(Check.bits("bc")), Check.bits("B"));
        CHECK.due("9: d bars it", x.comes(Check.bits("bcd")), 0);
        CHECK.due("9: d bars but B", x.comes(Check.bits("abcd")), Check.bits("A"));
        CHECK.due("9: g", x.comes(Check.bits("g")), Check.bits("H"));
        CHECK.due("9: h bars it", x.comes(Check.bits("gh")), 0);
        CHECK.due("9: all", x.comes(255), Check.bits("A"));
        CHECK.due("9: -1", x.comes(-1), SmallFirst.BAD);
        CHECK.due("9: 256", x.comes(256), SmallFirst.BAD);
        x.type(1, 'A');
        Check.type(x, 0, ";e+B");
        CHECK.due("9: a law more", x.comes(Check.bits("e")), Check.bits("B"));
    }

    private static void lays() {
        SmallFirst x = Check.house("", "Aa;Ah;Bh;Hc;Bh");
        CHECK.due("10: none", x.lays(0), 0);
        CHECK.due("10: A", x.lays(Check.bits("A")), Check.bits("ah"));
        CHECK.due("10: B", x.lays(Check.bits("B")), Check.bits("h"));
        CHECK.due("10: C", x.lays(Check.bits("C")), 0);
        CHECK.due("10: H", x.lays(Check.bits("H")), Check.bits("c"));
        CHECK.due("10: all", x.lays(255), Check.bits("ach"));
        CHECK.due("10: -1", x.lays(-1), SmallFirst.BAD);
        CHECK.due("10: 256", x.lays(256), SmallFirst.BAD);
    }

    private static void lay() {
        SmallFirst x = new SmallFirst();
        CHECK.due("11: week -1", x.lay(-1, 0, 1), SmallFirst.BAD);
        CHECK.due("11: week 30", x.lay(30, 0, 1), SmallFirst.BAD);
        CHECK.due("11: small -1", x.lay(0, -1, 1), SmallFirst.BAD);
        CHECK.due("11: small 8", x.lay(0, 8, 1), SmallFirst.BAD);
        CHECK.due("11: is -1", x.lay(0, 0, -1), SmallFirst.BAD);
        CHECK.due("11: is 2", x.lay(0, 0, 2), SmallFirst.BAD);
        CHECK.due("11: none yet", x.count(4), 0);
        for (int n = 1; n <= 12; n++) {
            CHECK.due("11: laying " + n, x.lay(29, n % 8, n < 11 ? 1 : 0), n);
        }
        CHECK.due("11: one too many", x.lay(0, 0, 1), SmallFirst.FULL);
        CHECK.due("11: BAD ahead of FULL", x.lay(30, 0, 1), SmallFirst.BAD);
        CHECK.due("11: still 12", x.count(4), 12);
        CHECK.due("11: d and e are swept", x.week(29, 0), 255 - Check.bits("de"));
    }

    private static void back() {
        SmallFirst x = new SmallFirst();
        CHECK.due("12: there is none", x.back(), SmallFirst.NOT);
        x.lay(0, 2, 1);
        x.lay(0, 2, 0);
        CHECK.due("12: swept", x.week(0, 0), 0);
        CHECK.due("12: one is left", x.back(), 1);
        CHECK.due("12: laid", x.week(0, 0), 4);
        CHECK.due("12: none is left", x.back(), 0);
        CHECK.due("12: not laid", x.week(0, 0), 0);
        CHECK.due("12: there is none again", x.back(), SmallFirst.NOT);
    }

    private static void week() {
        SmallFirst x = Check.house("a+A;b+B", "Ab;Bc");
        x.first(1);
        CHECK.due("13: small of week 0", x.week(0, 0), Check.bits("a"));
        CHECK.due("13: nothing came in week 0", x.week(0, 1), 0);
        CHECK.due("13: big of week 1", x.week(1, 1), Check.bits("A"));
        CHECK.due("13: small of week 1", x.week(1, 0), Check.bits("b"));
        CHECK.due("13: big of week 2", x.week(2, 1), Check.bits("B"));
        CHECK.due("13: small of week 2", x.week(2, 0), Check.bits("c"));
        CHECK.due("13: small of week 3", x.week(3, 0), 0);
        x.lay(2, 0, 1);
        x.lay(29, 7, 1);
        x.lay(2, 2, 0);
        CHECK.due("13: laid and swept in week 2", x.week(2, 0), Check.bits("a"));
        CHECK.due("13: what came stays", x.week(2, 1), Check.bits("B"));
        CHECK.due("13: big of week 3", x.week(3, 1), Check.bits("A"));
        CHECK.due("13: the last week", x.week(29, 0), Check.bits("h"));
        x.lay(0, 0, 0);
        CHECK.due("13: FIRST is swept", x.week(0, 0), 0);
        CHECK.due("13: nothing comes by it", x.week(1, 1), 0);
        x.lay(0, 0, 1);
        CHECK.due("13: laid again", x.week(1, 1), Check.bits("A"));
        CHECK.due("13: FIRST is as told", x.count(7), 1);
        CHECK.due("13: week -1", x.week(-1, 0), SmallFirst.BAD);
        CHECK.due("13: week 30", x.week(30, 0), SmallFirst.BAD);
        CHECK.due("13: what -1", x.week(0, -1), SmallFirst.BAD);
        CHECK.due("13: what 2", x.week(0, 2), SmallFirst.BAD);
    }

    private static void judged() {
        SmallFirst x = Check.house("a+A;b-A;c+B;d-C", "");
        x.first(Check.bits("acd"));
        CHECK.due("14: unlike things don't disagree", x.judged(), SmallFirst.NONE);
        x.lay(29, 0, 1);
        x.lay(29, 1, 1);
        CHECK.due("14: in the last week", x.judged(), 29);
        x.lay(3, 1, 1);
        x.lay(3, 0, 1);
        CHECK.due("14: in week 3", x.judged(), 3);
        x.first(3);
        CHECK.due("14: in week 0", x.judged(), 0);
        x.lay(0, 1, 0);
        CHECK.due("14: swept", x.judged(), 3);
        x.wipe(0);
        CHECK.due("14: no laws", x.judged(), SmallFirst.NONE);
    }

    private static void two() {
        CHECK.due("15: no laws", new SmallFirst().two(), SmallFirst.NONE);
        CHECK.due("15: one each", Check.house("a+A;b+B", "").two(), SmallFirst.NONE);
        CHECK.due("15: the same twice", Check.house("a+A;ab+A", "").two(), SmallFirst.NONE);
        CHECK.due("15: with - it doesn't count", Check.house("a+A;a-B", "").two(), SmallFirst.NONE);
        CHECK.due("15: a", Check.house("a+A;a+B", "").two(), 0);
        CHECK.due("15: in a pair", Check.house("ah+A;bh+H", "").two(), 7);
        CHECK.due("15: the least", Check.house("h+A;h+B;c+C;c+D", "").two(), 2);
    }

    private static void second() {
        SmallFirst x = Check.house("a+C;c+E;e+G;b+B;ce+H;g-G", "Aa");
        CHECK.due("16: a", x.second(Check.bits("a")), Check.bits("E"));
        CHECK.due("16: c", x.second(Check.bits("c")), Check.bits("G"));
        CHECK.due("16: e", x.second(Check.bits("e")), 0);
        CHECK.due("16: b", x.second(Check.bits("b")), Check.bits("B"));
        CHECK.due("16: a and c", x.second(Check.bits("ac")), Check.bits("EGH"));
        CHECK.due("16: none", x.second(0), 0);
        CHECK.due("16: -1", x.second(-1), SmallFirst.BAD);
        CHECK.due("16: 256", x.second(256), SmallFirst.BAD);
    }
}
