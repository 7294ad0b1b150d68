/** The sentences on what comes, what lies, layings and weeks (Terms, part 2, promises 9 to 16), edge by edge. */
public final class WeeksEdgesTest {
    private static final Check CHECK = new Check("WeeksEdgesTest");
    private static final int NONE = SmallFirst.NONE, BAD = SmallFirst.BAD, NOT = SmallFirst.NOT, FULL = SmallFirst.FULL;
    private static final String KEEP_LAWS = "a+A;b+B;c+C;d+D;e+E;f+F;g+G;h+H";
    private static final String KEEP_DUST = "Aa;Bb;Cc;Dd;Ee;Ff;Gg;Hh";

    public static void main(String[] args) {
        holds();
        comesOfSome();
        laysOfSome();
        firstAtFirst();
        layingsInAWeek();
        mostLayings();
        liesByWhatCame();
        layingsAsTold();
        comesByThese();
        lastWeek();
        comes();
        lays();
        lay();
        back();
        week();
        judged();
        judgedNone();
        two();
        second();
        CHECK.everyPromise(9, 16);
        CHECK.end();
    }

    private static int bits(String letters) {
        return Check.bits(letters);
    }

    // ---- Terms

    private static void holds() {
        CHECK.sentence("Terms", "A law HOLDS where all its SMALL things lie.");
        SmallFirst x = Check.house("ch+A;e+B", "");
        for (int set = 0; set < 256; set++) {
            int a = (set & 4) != 0 && (set & 128) != 0 ? 1 : 0;
            int b = (set & 16) != 0 ? 2 : 0;
            CHECK.due("comes(" + set + ")", x.comes(set), a + b);
        }
    }

    private static void comesOfSome() {
        CHECK.sentence("Terms", "BIG ones for which some law with + HOLDS, and none with -.");
        SmallFirst x = Check.house("a-A;b+A;c+A;d-A;ef-A;g-B", "");
        CHECK.due("nothing lies", x.comes(0), 0);
        CHECK.due("one with +", x.comes(bits("b")), 1);
        CHECK.due("two with +", x.comes(bits("bc")), 1);
        CHECK.due("one with -, told ahead", x.comes(bits("ab")), 0);
        CHECK.due("one with -, told behind", x.comes(bits("bd")), 0);
        CHECK.due("two with + and two with -", x.comes(bits("abcd")), 0);
        CHECK.due("half of one with -", x.comes(bits("be")), 1);
        CHECK.due("all of it", x.comes(bits("bef")), 0);
        CHECK.due("one with - alone", x.comes(bits("a")), 0);
        CHECK.due("one with - of another", x.comes(bits("bg")), 1);
        CHECK.due("no law of h", x.comes(bits("h")), 0);
        CHECK.due("the same law with both signs", Check.house("a+A;a-A", "").comes(1), 0);
        CHECK.due("the same, the other way round", Check.house("a-A;a+A", "").comes(1), 0);
    }

    private static void laysOfSome() {
        CHECK.sentence("Terms", "LAYS of BIG things: SMALL ones that lie by DUST of these.");
        SmallFirst x = Check.house("", "Ah;Ha;Bc;Bd;Cc;Bc");
        CHECK.due("of none", x.lays(0), 0);
        CHECK.due("of A", x.lays(bits("A")), bits("h"));
        CHECK.due("of H", x.lays(bits("H")), bits("a"));
        CHECK.due("two of B", x.lays(bits("B")), bits("cd"));
        CHECK.due("B and C lay c, too", x.lays(bits("BC")), bits("cd"));
        CHECK.due("of C", x.lays(bits("C")), bits("c"));
        CHECK.due("no dust of these", x.lays(bits("DEFG")), 0);
        CHECK.due("of all", x.lays(255), bits("acdh"));
    }

    private static void firstAtFirst() {
        CHECK.sentence("Terms", "FIRST (bits; 0 at first): SMALL things that lie in week 0.");
        SmallFirst x = new SmallFirst();
        CHECK.due("0 at first", x.week(0, 0), 0);
        CHECK.due("told by count(7)", x.count(7), 0);
        x.first(255);
        CHECK.due("all", x.week(0, 0), 255);
        CHECK.due("all, told by count(7)", x.count(7), 255);
    }

    private static void layingsInAWeek() {
        CHECK.sentence("Terms", "in a week (0 to 29) a SMALL thing is laid (1), or swept (0).");
        for (int week = 0; week < 30; week++) {
            SmallFirst x = Check.house(KEEP_LAWS, KEEP_DUST, "h");
            int small = week % 7;
            CHECK.due("laid in week " + week, x.lay(week, small, 1), 1);
            CHECK.due("swept in week " + week, x.lay(week, 7, 0), 2);
            if (week > 0) {
                CHECK.due("the week ahead of " + week, x.week(week - 1, 0), 128);
            }
            CHECK.due("week " + week, x.week(week, 0), 1 << small);
            CHECK.due("the last week", x.week(29, 0), 1 << small);
        }
        SmallFirst x = Check.house(KEEP_LAWS, KEEP_DUST, "ab");
        x.lay(0, 0, 1);
        CHECK.due("what lies already is laid", x.week(0, 0), bits("ab"));
        x.lay(0, 2, 0);
        CHECK.due("what does not lie is swept", x.week(0, 0), bits("ab"));
        for (int small = 0; small < 8; small++) {
            SmallFirst y = new SmallFirst();
            y.lay(29, small, 1);
            CHECK.due("thing " + small, y.week(29, 0), 1 << small);
        }
    }

    private static void mostLayings() {
        CHECK.sentence("Terms", "LAYINGS, 12 at most (0 on)");
        SmallFirst x = new SmallFirst();
        for (int n = 1; n <= 12; n++) {
            CHECK.due("laying " + n, x.lay(n, n % 8, 1), n);
        }
        CHECK.due("laying 13", x.lay(13, 0, 1), FULL);
        CHECK.due("it is not there", x.week(13, 0), 0);
        for (int n = 1; n <= 12; n++) {
            CHECK.due("in week " + n, x.week(n, 0), 1 << n % 8);
        }
        CHECK.due("one is undone", x.back(), 11);
        CHECK.due("there is room for one", x.lay(13, 0, 1), 12);
        CHECK.due("it is there", x.week(13, 0), 1);
        CHECK.due("the undone one is not", x.week(12, 0), 0);
        CHECK.due("there is room for no other", x.lay(14, 0, 1), FULL);
    }

    private static void liesByWhatCame() {
        CHECK.sentence("Terms", "In week w (0 to 29) SMALL things lie by what BIG ones came in it (none in week 0: FIRST)");
        SmallFirst x = Check.house(KEEP_LAWS, KEEP_DUST, "abcdefgh");
        CHECK.due("no BIG one in week 0", x.week(0, 1), 0);
        CHECK.due("SMALL things of week 0", x.week(0, 0), 255);
        CHECK.due("BIG ones in week 1", x.week(1, 1), 255);
        x.wipe(1);
        CHECK.due("without dust nothing lies in week 1", x.week(1, 0), 0);
        CHECK.due("what came in week 1 stays", x.week(1, 1), 255);
        CHECK.due("nothing comes in week 2", x.week(2, 1), 0);
        CHECK.due("FIRST lies in week 0 all the same", x.week(0, 0), 255);
    }

    private static void layingsAsTold() {
        CHECK.sentence("Terms", "then by LAYINGS of that week, one by one, as told.");
        SmallFirst x = Check.house(KEEP_LAWS, KEEP_DUST);
        x.lay(5, 3, 1);
        CHECK.due("laid", x.week(5, 0), bits("d"));
        x.lay(5, 3, 0);
        CHECK.due("laid, then swept", x.week(5, 0), 0);
        x.lay(5, 3, 1);
        CHECK.due("laid, swept, laid", x.week(5, 0), bits("d"));
        x.lay(2, 3, 1);
        CHECK.due("told later, of a week ahead", x.week(4, 0), bits("d"));
        x.lay(4, 3, 0);
        CHECK.due("swept in between", x.week(4, 0), 0);
        CHECK.due("laid again behind it", x.week(5, 0), bits("d"));
        x.lay(5, 3, 0);
        CHECK.due("the last of week 5 counts", x.week(6, 0), 0);
        SmallFirst y = Check.house("a+A", "Aa", "a");
        y.lay(0, 0, 0);
        CHECK.due("FIRST, then LAYINGS", y.week(0, 0), 0);
        CHECK.due("FIRST itself stays", y.count(7), 1);
    }

    private static void comesByThese() {
        CHECK.sentence("Terms", "In the week behind it BIG ones come by these.");
        SmallFirst x = Check.house("a+A;b+B", "Ab");
        x.lay(3, 0, 1);
        CHECK.due("in week 3 nothing came", x.week(3, 1), 0);
        CHECK.due("in week 4 A came", x.week(4, 1), bits("A"));
        CHECK.due("in week 4 b lies", x.week(4, 0), bits("b"));
        CHECK.due("in week 5 B came", x.week(5, 1), bits("B"));
        x.lay(4, 1, 0);
        CHECK.due("b is swept", x.week(4, 0), 0);
        CHECK.due("so B did not come", x.week(5, 1), 0);
        CHECK.due("A came all the same", x.week(4, 1), bits("A"));
    }

    private static void lastWeek() {
        CHECK.sentence("Terms", "In week w (0 to 29)");
        SmallFirst x = Check.house(KEEP_LAWS, "Ab;Bc;Cd;De;Ef;Fg;Gh;Ha", "a");
        for (int w = 0; w < 30; w++) {
            CHECK.due("small in week " + w, x.week(w, 0), 1 << w % 8);
            CHECK.due("big in week " + w, x.week(w, 1), w == 0 ? 0 : 1 << (w - 1) % 8);
        }
        x.lay(29, 0, 1);
        CHECK.due("laid in week 29", x.week(29, 0), bits("af"));
        CHECK.due("the BIG ones of week 29 stay", x.week(29, 1), bits("E"));
        CHECK.due("there is no week 30", x.week(30, 1), BAD);
    }

    // ---- promises 9 to 16

    private static void comes() {
        CHECK.sentence("Promise 9", "COMES, as bits. BAD (bits 0 to 255).");
        SmallFirst x = Check.house(KEEP_LAWS, "", "h");
        x.lay(0, 0, 1);
        for (int set = 0; set < 256; set++) {
            CHECK.due("comes(" + set + "), by neither FIRST nor LAYINGS", x.comes(set), set);
        }
        CHECK.due("256", x.comes(256), BAD);
        CHECK.due("-1", x.comes(-1), BAD);
        CHECK.due("257", x.comes(257), BAD);
        CHECK.due("the least int", x.comes(Check.LEAST), BAD);
        CHECK.due("no laws, all lie", new SmallFirst().comes(255), 0);
    }

    private static void lays() {
        CHECK.sentence("Promise 10", "LAYS, as bits. BAD (bits 0 to 255).");
        SmallFirst x = Check.house("", KEEP_DUST, "h");
        x.lay(0, 0, 1);
        for (int set = 0; set < 256; set++) {
            CHECK.due("lays(" + set + "), by neither FIRST nor LAYINGS", x.lays(set), set);
        }
        CHECK.due("256", x.lays(256), BAD);
        CHECK.due("-1", x.lays(-1), BAD);
        CHECK.due("257", x.lays(257), BAD);
        CHECK.due("the least int", x.lays(Check.LEAST), BAD);
        CHECK.due("no dust, all came", new SmallFirst().lays(255), 0);
    }

    private static void lay() {
        CHECK.sentence("Promise 11", "A LAYING more: how many. BAD; FULL.");
        SmallFirst x = new SmallFirst();
        CHECK.due("the smallest numbers", x.lay(0, 0, 0), 1);
        CHECK.due("the largest numbers", x.lay(29, 7, 1), 2);
        CHECK.due("week -1", x.lay(-1, 0, 0), BAD);
        CHECK.due("week 30", x.lay(30, 7, 1), BAD);
        CHECK.due("small -1", x.lay(0, -1, 0), BAD);
        CHECK.due("small 8", x.lay(29, 8, 1), BAD);
        CHECK.due("is -1", x.lay(0, 0, -1), BAD);
        CHECK.due("is 2", x.lay(29, 7, 2), BAD);
        CHECK.due("the same again is one more", x.lay(29, 7, 1), 3);
        for (int n = 4; n <= 12; n++) {
            CHECK.due("more", x.lay(29, 7, 1), n);
        }
        CHECK.due("full", x.lay(0, 0, 0), FULL);
        CHECK.due("BAD is ahead of FULL", x.lay(30, 0, 0), BAD);
        CHECK.due("how many", x.count(4), 12);
    }

    private static void back() {
        CHECK.sentence("Promise 12", "The last LAYING is undone: how many are left. NOT: there is none.");
        SmallFirst x = new SmallFirst();
        CHECK.due("there is none", x.back(), NOT);
        for (int n = 0; n < 12; n++) {
            x.lay(n, 0, 1);
        }
        for (int left = 11; left >= 0; left--) {
            CHECK.due("is undone", x.back(), left);
            CHECK.due("it is not there", x.week(left, 0), 0);
            CHECK.due("the others are", x.week(Math.max(left - 1, 0), 0), left > 0 ? 1 : 0);
        }
        CHECK.due("there is none again", x.back(), NOT);
        CHECK.due("nor behind it", x.count(4), 0);
        CHECK.due("one more", x.lay(0, 0, 1), 1);
        SmallFirst y = new SmallFirst();
        y.lay(20, 0, 1);
        y.lay(3, 1, 1);
        CHECK.due("the last told, not the last week", y.back(), 1);
        CHECK.due("week 20 is as it was", y.week(20, 0), 1);
        CHECK.due("week 3 is not", y.week(3, 0), 0);
    }

    private static void week() {
        CHECK.sentence("Promise 13", "In a week: SMALL things that lie (what = 0), BIG ones that came (1), as bits. BAD.");
        SmallFirst x = Check.house("a+B", "Ba", "a");
        CHECK.due("week 0, small", x.week(0, 0), 1);
        CHECK.due("week 0, big", x.week(0, 1), 0);
        CHECK.due("week 1, big", x.week(1, 1), 2);
        CHECK.due("week 29, small", x.week(29, 0), 1);
        CHECK.due("week 29, big", x.week(29, 1), 2);
        CHECK.due("week -1", x.week(-1, 0), BAD);
        CHECK.due("week 30", x.week(30, 0), BAD);
        CHECK.due("what -1", x.week(0, -1), BAD);
        CHECK.due("what 2", x.week(29, 2), BAD);
        x.wipe(0);
        CHECK.due("changed laws change the weeks", x.week(29, 0), 0);
        Check.type(x, 0, "a+B");
        x.first(0);
        CHECK.due("changed FIRST changes the weeks", x.week(29, 0), 0);
        x.first(1);
        x.wipe(1);
        CHECK.due("changed dust changes the weeks", x.week(1, 0), 0);
    }

    private static void judged() {
        CHECK.sentence("Part 2", "JUDGED: the first week whose SMALL things make a law with + and one with - of one BIG thing HOLD; NONE.");
        for (int week = 0; week < 30; week++) {
            SmallFirst x = Check.house("a+H;b-H", "");
            x.lay(29, 0, 1);
            x.lay(29, 1, 1);
            x.lay(week, 0, 1);
            x.lay(week, 1, 1);
            CHECK.due("in week " + week, x.judged(), week);
        }
        SmallFirst x = Check.house("a+A;b-A", "Ab");
        x.first(bits("a"));
        CHECK.due("a, then b", x.judged(), NONE);
        x.first(bits("ab"));
        CHECK.due("both at first", x.judged(), 0);
        x.lay(0, 0, 0);
        CHECK.due("a is swept", x.judged(), NONE);
        x.lay(0, 0, 1);
        CHECK.due("and laid again", x.judged(), 0);
    }

    private static void judgedNone() {
        CHECK.sentence("Promise 14", "JUDGED; NONE.");
        CHECK.due("no laws", new SmallFirst().judged(), NONE);
        CHECK.due("of unlike BIG things", Check.house("a+A;b-B", "", "ab").judged(), NONE);
        CHECK.due("laws with + alone", Check.house("a+A;b+A", "", "ab").judged(), NONE);
        CHECK.due("laws with - alone", Check.house("a-A;b-A", "", "ab").judged(), NONE);
        CHECK.due("nothing lies", Check.house("a+A;b-A", "", "").judged(), NONE);
        CHECK.due("half of a law", Check.house("ab+A;c-A", "", "ac").judged(), NONE);
        CHECK.due("all of it", Check.house("ab+A;c-A", "", "abc").judged(), 0);
        CHECK.due("the same things", Check.house("a+A;a-A", "", "a").judged(), 0);
        CHECK.due("told the other way round", Check.house("a-A;b+A", "", "ab").judged(), 0);
        SmallFirst x = Check.house("a+A;b-A", "", "ab");
        x.type(0, ';');
        CHECK.due("with a FAULT", x.judged(), NONE);
        CHECK.due("by H", Check.house("g+H;h-H", "", "gh").judged(), 0);
    }

    private static void two() {
        CHECK.sentence("Promise 15", "TWO; NONE.");
        CHECK.due("no laws", new SmallFirst().two(), NONE);
        CHECK.sentence("Part 2", "TWO: the least SMALL thing that stands (in laws with +) for two BIG ones or more; NONE.");
        for (char c = 'a'; c <= 'h'; c++) {
            CHECK.due(c + " for two", Check.house(c + "+A;" + c + "+H", "").two(), c - 'a');
        }
        CHECK.due("for one", Check.house("a+A", "").two(), NONE);
        CHECK.due("twice for the same", Check.house("a+A;ab+A;a+A", "").two(), NONE);
        CHECK.due("for another in a law with -", Check.house("a+A;a-B", "").two(), NONE);
        CHECK.due("with - twice", Check.house("a-A;a-B", "").two(), NONE);
        CHECK.due("for three", Check.house("c+A;c+B;c+C", "").two(), 2);
        CHECK.due("the least, told last", Check.house("h+A;h+B;b+A;b+B", "").two(), 1);
        CHECK.due("as the second of two letters", Check.house("ah+A;bh+B", "").two(), 7);
        CHECK.due("as either", Check.house("bd+A;de+B", "").two(), 3);
        SmallFirst all = Check.house("a+A;a+B", "");
        all.type(0, ';');
        CHECK.due("with a FAULT", all.two(), NONE);
    }

    private static void second() {
        CHECK.sentence("Promise 16", "SECOND, as bits. BAD (bits 0 to 255).");
        SmallFirst x = Check.house(KEEP_LAWS, "");
        CHECK.due("0", x.second(0), 0);
        CHECK.due("255", x.second(255), 255);
        CHECK.due("256", x.second(256), BAD);
        CHECK.due("-1", x.second(-1), BAD);
        CHECK.sentence("Part 2", "COMES of what COMES of told SMALL things there.");
        SmallFirst ring = Check.house("a+B;b+C;c+D;d+E;e+F;f+G;g+H;h+A", "Aa;Ba;Ca", "h");
        ring.lay(0, 0, 1);
        for (int i = 0; i < 8; i++) {
            CHECK.due("A is a, .., H is h: " + i, ring.second(1 << i), 1 << (i + 2) % 8);
        }
        SmallFirst barred = Check.house("a+B;b+C;c-C;a+C", "");
        CHECK.due("what comes there bars", barred.second(bits("a")), 0);
        CHECK.due("what lies there does not", barred.second(bits("ac")), bits("C"));
    }
}
