/** Promises 17 to 22: layings and sweepings that are planned, turns, steady weeks and rounds. */
public final class PlansTest {
    private static final Check CHECK = new Check("PlansTest");

    public static void main(String[] args) {
        touch();
        touchRefused();
        keepOff();
        bars();
        play();
        steady();
        round();
        CHECK.end();
    }

    private static void touch() {
        SmallFirst x = Check.house("ab+A;c+A;d+B;e-B", "Ad;Bc");
        x.first(Check.bits("e"));
        CHECK.due("17: nothing is wanted", x.touch(1, 0, 0, 0), 0);
        CHECK.due("17: one for A", x.touch(1, 1, 0, 0), 1);
        CHECK.due("17: c for A", x.touch(1, 1, 0, 1), Check.bits("c"));
        CHECK.due("17: two for B", x.touch(1, 2, 0, 0), 2);
        CHECK.due("17: d laid, e swept", x.touch(1, 2, 0, 1), Check.bits("de"));
        CHECK.due("17: three for both", x.touch(1, 3, 0, 1), Check.bits("cde"));
        CHECK.due("17: B in week 2", x.touch(2, 2, 0, 1), Check.bits("c"));
        CHECK.due("17: A in week 9", x.touch(9, 1, 2, 1), Check.bits("c"));
        CHECK.due("17: B in week 9, and not A", x.touch(9, 2, 1, 1), Check.bits("de"));
        CHECK.due("17: C never comes", x.touch(1, 4, 0, 0), SmallFirst.NONE);
        CHECK.due("17: C never comes, bits", x.touch(1, 4, 0, 1), SmallFirst.NONE);
        CHECK.due("17: C never comes, it need not", x.touch(1, 0, 4, 1), 0);
        x.first(Check.bits("abc"));
        CHECK.due("17: two to hold A off", x.touch(1, 0, 1, 0), 2);
        CHECK.due("17: of like ones the least", x.touch(1, 0, 1, 1), Check.bits("ac"));
        CHECK.due("17: it is so already", x.touch(1, 1, 2, 0), 0);
        x.lay(0, 2, 0);
        x.lay(0, 0, 0);
        CHECK.due("17: no layings", x.touch(1, 1, 2, 0), 0);
        CHECK.due("17: FIRST stays", x.count(7), 7);
    }

    private static void touchRefused() {
        SmallFirst x = Check.house("a+A", "");
        CHECK.due("17: week 0", x.touch(0, 0, 0, 0), SmallFirst.BAD);
        CHECK.due("17: week 10", x.touch(10, 0, 0, 0), SmallFirst.BAD);
        CHECK.due("17: week 9", x.touch(9, 0, 0, 0), 0);
        CHECK.due("17: come -1", x.touch(1, -1, 0, 0), SmallFirst.BAD);
        CHECK.due("17: come 256", x.touch(1, 256, 0, 0), SmallFirst.BAD);
        CHECK.due("17: not -1", x.touch(1, 0, -1, 0), SmallFirst.BAD);
        CHECK.due("17: not 256", x.touch(1, 0, 256, 0), SmallFirst.BAD);
        CHECK.due("17: what -1", x.touch(1, 0, 0, -1), SmallFirst.BAD);
        CHECK.due("17: what 2", x.touch(1, 0, 0, 2), SmallFirst.BAD);
        CHECK.due("17: both", x.touch(1, 3, 2, 0), SmallFirst.BAD);
        CHECK.due("17: not both", x.touch(1, 1, 254, 0), 1);
    }

    private static void keepOff() {
        SmallFirst x = Check.house("ab+A;cd+A;e-A;f+B;g+B", "Bc;Be");
        x.first(Check.bits("abcdf"));
        CHECK.due("18: one of each pair", x.keepOff(1, 0, 0), 2);
        CHECK.due("18: of like ones the least", x.keepOff(1, 0, 1), Check.bits("ac"));
        CHECK.due("18: B", x.keepOff(9, 1, 1), Check.bits("f"));
        CHECK.due("18: C doesn't come", x.keepOff(9, 2, 0), 0);
        CHECK.due("18: C doesn't come, bits", x.keepOff(9, 2, 1), 0);
        x.first(Check.bits("abe"));
        CHECK.due("18: e bars it, and is not swept", x.keepOff(9, 0, 1), 0);
        x.first(Check.bits("fg"));
        CHECK.due("18: both", x.keepOff(1, 1, 1), Check.bits("fg"));
        x.lay(0, 5, 0);
        CHECK.due("18: no layings", x.keepOff(1, 1, 0), 2);
        keepOffLater();
        CHECK.due("18: k 0", x.keepOff(0, 0, 0), SmallFirst.BAD);
        CHECK.due("18: k 10", x.keepOff(10, 0, 0), SmallFirst.BAD);
        CHECK.due("18: big -1", x.keepOff(1, -1, 0), SmallFirst.BAD);
        CHECK.due("18: big 8", x.keepOff(1, 8, 0), SmallFirst.BAD);
        CHECK.due("18: what -1", x.keepOff(1, 0, -1), SmallFirst.BAD);
        CHECK.due("18: what 2", x.keepOff(1, 0, 2), SmallFirst.BAD);
    }

    private static void keepOffLater() {
        SmallFirst x = Check.house("a+A;b+B;c+C;h+A", "Bc;Ca");
        x.first(Check.bits("b"));
        CHECK.due("18: A in week 3 only", x.keepOff(2, 0, 0), 0);
        CHECK.due("18: ahead of it", x.keepOff(3, 0, 1), Check.bits("b"));
        x.first(Check.bits("bh"));
        CHECK.due("18: in week 1", x.keepOff(1, 0, 1), Check.bits("h"));
        CHECK.due("18: in weeks 1 and 3", x.keepOff(3, 0, 1), Check.bits("bh"));
    }

    private static void bars() {
        SmallFirst x = Check.house("a+A;b+A;c-A;d-B;e+C;fgh".substring(0, 19) + ";fg-C;h-C", "");
        CHECK.due("19: the text is well", x.fault(0), SmallFirst.NONE);
        CHECK.due("19: a or b, and c", x.bars(0), 96);
        CHECK.due("19: no law with +", x.bars(1), 0);
        CHECK.due("19: e, and fg or h", x.bars(2), 80);
        CHECK.due("19: no law at all", x.bars(7), 0);
        CHECK.due("19: -1", x.bars(-1), SmallFirst.BAD);
        CHECK.due("19: 8", x.bars(8), SmallFirst.BAD);
    }

    private static void play() {
        SmallFirst x = Check.house("ab+A;cd+B;c+C;h-C", "");
        CHECK.due("20: n 0, nothing lies", x.play(0, 0, 0), 0);
        CHECK.due("20: n 0, what", x.play(0, 0, 1), SmallFirst.NONE);
        CHECK.due("20: one is too few", x.play(1, 0, 0), 0);
        CHECK.due("20: none will do", x.play(1, 0, 1), SmallFirst.NONE);
        CHECK.due("20: c", x.play(1, 2, 0), 1);
        CHECK.due("20: what c", x.play(1, 2, 1), 2);
        CHECK.due("20: the other one sweeps it", x.play(2, 2, 0), 0);
        CHECK.due("20: the first one is last", x.play(3, 2, 0), 1);
        CHECK.due("20: c at once, else h comes ahead of it", x.play(3, 2, 1), 2);
        x.first(Check.bits("ab"));
        CHECK.due("20: n 0, it comes", x.play(0, 0, 0), 1);
        CHECK.due("20: n 0, it comes, what", x.play(0, 0, 1), SmallFirst.NONE);
        CHECK.due("20: it need not touch any", x.play(1, 0, 1), SmallFirst.NONE);
        CHECK.due("20: the other one does", x.play(2, 0, 0), 0);
        CHECK.due("20: mended", x.play(3, 0, 0), 1);
        x.first(Check.bits("ac"));
        CHECK.due("20: what b", x.play(1, 0, 1), 1);
        CHECK.due("20: what d", x.play(1, 1, 1), 3);
        x.lay(0, 0, 0);
        CHECK.due("20: no layings", x.play(1, 0, 0), 1);
        x.first(Check.bits("ch"));
        CHECK.due("20: h is swept", x.play(1, 2, 1), 7);
        playsOfAllSets();
        SmallFirst y = Check.house("a+A;b+A;c+A", "");
        CHECK.due("20: two of three", y.play(2, 0, 0), 0);
        y.first(Check.bits("b"));
        CHECK.due("20: a besides b", y.play(2, 0, 1), 0);
        CHECK.due("20: it comes", y.play(2, 0, 0), 1);
        CHECK.due("20: with four too", y.play(4, 0, 0), 1);
        CHECK.due("20: n -1", x.play(-1, 0, 0), SmallFirst.BAD);
        CHECK.due("20: n 5", x.play(5, 0, 0), SmallFirst.BAD);
        CHECK.due("20: big -1", x.play(0, -1, 0), SmallFirst.BAD);
        CHECK.due("20: big 8", x.play(0, 8, 0), SmallFirst.BAD);
        CHECK.due("20: what -1", x.play(0, 0, -1), SmallFirst.BAD);
        CHECK.due("20: what 2", x.play(0, 0, 2), SmallFirst.BAD);
    }

    // The plain reading plays from the last turn back, for all sets at once.
    private static void playsOfAllSets() {
        String laws = "ab+A;cd+A;e-A;c+B;fg-B;a+B;h+C;ah-C";
        Plain plain = new Plain();
        plain.typeAll(0, laws);
        for (int set = 0; set < 256; set += 3) {
            SmallFirst x = Check.house(laws, "");
            x.first(set);
            plain.first(set);
            for (int n = 0; n <= 4; n++) {
                for (int big = 0; big < 3; big++) {
                    String row = "20: of " + set + ", n " + n + ", big " + big;
                    CHECK.due(row, x.play(n, big, 0), plain.play(n, big, 0));
                    CHECK.due(row + ", what", x.play(n, big, 1), plain.play(n, big, 1));
                }
            }
        }
    }

    private static void steady() {
        SmallFirst x = Check.house("a+A;c+B;d+C", "Aa;Ab;Bd;Cc");
        CHECK.due("21: how many", x.steady(SmallFirst.NONE), 4);
        CHECK.due("21: none lies", x.steady(0), 0);
        CHECK.due("21: a and b", x.steady(1), Check.bits("ab"));
        CHECK.due("21: c and d", x.steady(2), Check.bits("cd"));
        CHECK.due("21: all four", x.steady(3), Check.bits("abcd"));
        CHECK.due("21: no more", x.steady(4), SmallFirst.NONE);
        CHECK.due("21: 255", x.steady(255), SmallFirst.NONE);
        CHECK.due("21: 256", x.steady(256), SmallFirst.BAD);
        CHECK.due("21: -2", x.steady(-2), SmallFirst.BAD);
        CHECK.due("21: of all eight things", eachKeepsItself().steady(SmallFirst.NONE), 256);
        CHECK.due("21: the last one", eachKeepsItself().steady(255), 255);
    }

    private static SmallFirst eachKeepsItself() {
        return Check.house("a+A;b+B;c+C;d+D;e+E;f+F;g+G;h+H", "Aa;Bb;Cc;Dd;Ee;Ff;Gg;Hh");
    }

    private static void round() {
        SmallFirst x = Check.house("a+A;b+B;c+C;d+D;e+E", "Ab;Bc;Ca;Dc;Ee");
        CHECK.due("22: a, b, c, a", x.round(Check.bits("a"), 0), 3);
        CHECK.due("22: a round of three", x.round(Check.bits("a"), 1), 3);
        CHECK.due("22: d ahead of it", x.round(Check.bits("d"), 0), 4);
        CHECK.due("22: the round alone", x.round(Check.bits("d"), 1), 3);
        CHECK.due("22: steady at once", x.round(Check.bits("e"), 0), 1);
        CHECK.due("22: steady, a round of one", x.round(Check.bits("e"), 1), 1);
        CHECK.due("22: gone, then steady", x.round(Check.bits("h"), 0), 2);
        CHECK.due("22: gone, a round of one", x.round(Check.bits("h"), 1), 1);
        CHECK.due("22: small -1", x.round(-1, 0), SmallFirst.BAD);
        CHECK.due("22: small 256", x.round(256, 0), SmallFirst.BAD);
        CHECK.due("22: what -1", x.round(0, -1), SmallFirst.BAD);
        CHECK.due("22: what 2", x.round(0, 2), SmallFirst.BAD);
        SmallFirst y = Check.house("a+A;b+B;c+C;d+D;e+E;f+F;g+G;h+H", "Ab;Bc;Ca;De;Ef;Fg;Gh;Hd");
        CHECK.due("22: three and five", y.round(Check.bits("ad"), 0), 15);
        CHECK.due("22: three and five, the round", y.round(Check.bits("ad"), 1), 15);
    }
}
