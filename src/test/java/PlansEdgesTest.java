/** The sentences on plans, turns, steady weeks and rounds (part 3, promises 17 to 22), edge by edge. */
public final class PlansEdgesTest {
    private static final Check CHECK = new Check("PlansEdgesTest");
    private static final int NONE = SmallFirst.NONE, BAD = SmallFirst.BAD;
    private static final String KEEP_LAWS = "a+A;b+B;c+C;d+D;e+E;f+F;g+G;h+H";
    private static final String KEEP_DUST = "Aa;Bb;Cc;Dd;Ee;Ff;Gg;Hh";
    private static final String ALL_FOR_A = "a+A;b+A;c+A;d+A;e+A;f+A;g+A;h+A";

    public static void main(String[] args) {
        touchInWeekK();
        touchFewest();
        touchAllAndNone();
        touchLeastBits();
        touch();
        keepOffWeeks();
        keepOffFewest();
        keepOff();
        bars();
        turnsN();
        turnsWhat();
        play();
        steady();
        roundFirst();
        round();
        CHECK.everyPromise(17, 22);
        CHECK.end();
    }

    private static int bits(String letters) {
        return Check.bits(letters);
    }

    /** How many, and as bits. */
    private static void touched(String row, SmallFirst x, int k, String come, String not, String want) {
        CHECK.due(row + ", how many", x.touch(k, bits(come), bits(not), 0), want.length());
        CHECK.due(row + ", as bits", x.touch(k, bits(come), bits(not), 1), bits(want));
    }

    private static void swept(String row, SmallFirst x, int k, int big, String want) {
        CHECK.due(row + ", how many", x.keepOff(k, big, 0), want.length());
        CHECK.due(row + ", as bits", x.keepOff(k, big, 1), bits(want));
    }

    private static void notTouched(String row, SmallFirst x, int k, String come, String not) {
        CHECK.due(row + ", how many", x.touch(k, bits(come), bits(not), 0), NONE);
        CHECK.due(row + ", as bits", x.touch(k, bits(come), bits(not), 1), NONE);
    }

    // Rounds of three and of four weeks: c and d first lie together in week 8, so that H first comes in week 9.
    private static SmallFirst rounds() {
        return Check.house("a+A;b+B;c+C;d+D;e+E;f+F;g+G;cd+H", "Ab;Bc;Ca;De;Ef;Fg;Gd", "ad");
    }

    // ---- TOUCH

    private static void touchInWeekK() {
        CHECK.sentence("Part 3", "in week k (1 to 9; no LAYINGS) all told BIG ones come and none of some others");
        SmallFirst x = rounds();
        touched("H in week 9", x, 9, "H", "", "");
        touched("H in week 8", x, 8, "H", "", "be");
        touched("H in week 1", x, 1, "H", "", "c");
        touched("H not in week 9", x, 9, "", "H", "a");
        touched("H not in week 8", x, 8, "", "H", "");
        CHECK.due("week 0", x.touch(0, 128, 0, 0), BAD);
        CHECK.due("week 10", x.touch(10, 128, 0, 0), BAD);
        x.lay(0, 0, 0);
        x.lay(3, 4, 1);
        x.lay(8, 3, 0);
        touched("no LAYINGS", x, 9, "H", "", "");
        CHECK.due("FIRST stays", x.count(7), bits("ad"));
        SmallFirst noDust = Check.house("a+A", "", "a");
        touched("without dust in week 1", noDust, 1, "A", "", "");
        notTouched("without dust in week 2", noDust, 2, "A", "");
        touched("without dust, not in week 2", noDust, 2, "", "A", "");
        SmallFirst chain = Check.house(KEEP_LAWS, "Ab;Bc;Cd;De;Ef;Fg;Gh;Ha", "a");
        for (int k = 1; k <= 9; k++) {
            touched("by the chain in week " + k, chain, k, "ABCDEFGH".substring((k - 1) % 8, (k - 1) % 8 + 1), "", "");
        }
    }

    private static void touchFewest() {
        CHECK.sentence("Part 3", "TOUCH: the fewest SMALL things of FIRST touched (laid, or swept)");
        touched("none", Check.house(KEEP_LAWS, "", "a"), 1, "A", "BCDEFGH", "");
        touched("all eight are laid", Check.house("ab+A;cd+B;ef+C;gh+D", "", ""), 1, "ABCD", "", "abcdefgh");
        touched("all eight are swept", Check.house(ALL_FOR_A, "", "abcdefgh"), 1, "", "A", "abcdefgh");
        touched("some laid, some swept", Check.house(KEEP_LAWS, "", "bdfh"), 1, "ACEG", "BDFH", "abcdefgh");
        touched("seven", Check.house(KEEP_LAWS, "", "h"), 1, "ABCDEFGH", "", "abcdefg");
        touched("one laid, one swept", Check.house("a+A;b-A", "", "b"), 1, "A", "", "ab");
        touched("one that bars is laid", Check.house("a+A;ab+A;c+A;d-A", "", "abc"), 1, "", "A", "d");
        touched("h alone", Check.house("ab+A;h+A", "", ""), 1, "A", "", "h");
    }

    private static void touchAllAndNone() {
        CHECK.sentence("Part 3", "all told BIG ones come and none of some others");
        SmallFirst x = Check.house("a+A;a+B;b+A;c+B", "", "");
        touched("nothing is told", x, 1, "", "", "");
        touched("one is told, the other one may come", x, 1, "A", "", "a");
        touched("both are told", x, 1, "AB", "", "a");
        touched("one is told, the other one not", x, 1, "A", "B", "b");
        touched("the other way round", x, 1, "B", "A", "c");
        touched("neither of all", x, 1, "", "ABCDEFGH", "");
        notTouched("C", x, 1, "C", "");
        notTouched("all", x, 1, "ABCDEFGH", "");
        notTouched("A, and C besides", x, 1, "AC", "");
        notTouched("a new object", new SmallFirst(), 1, "A", "");
        SmallFirst tied = Check.house("a+A;a+B", "", "");
        notTouched("where one brings the other", tied, 1, "A", "B");
    }

    private static void touchLeastBits() {
        CHECK.sentence("Part 3", "of like ones the least bits: how many; as bits; NONE.");
        touched("bc are less than ad", Check.house("ad+A;bc+A", "", ""), 1, "A", "", "bc");
        touched("told the other way round", Check.house("bc+A;ad+A", "", ""), 1, "A", "", "bc");
        touched("a", Check.house("h+A;a+A", "", ""), 1, "A", "", "a");
        touched("to sweep a is less than to lay h", Check.house("a+A;h-A", "", "a"), 1, "", "A", "a");
        touched("to lay a is less than to sweep h", Check.house("h+A;a-A", "", "h"), 1, "", "A", "a");
        touched("gh and no fewer", Check.house("gh+A;cf+B", "", ""), 1, "A", "", "gh");
        touched("bits of what is touched, not of what lies", Check.house("ab+A;c+A", "", "a"), 1, "A", "", "b");
    }

    private static void touch() {
        CHECK.sentence("Promise 17", "TOUCH: how many (what = 0), as bits (1); NONE. BAD: also a thing that is told as both.");
        SmallFirst x = Check.house(KEEP_LAWS, "", "a");
        CHECK.due("come 0, not 0", x.touch(1, 0, 0, 0), 0);
        CHECK.due("come 255", x.touch(1, 255, 0, 0), 7);
        CHECK.due("not 255", x.touch(1, 0, 255, 0), 1);
        CHECK.due("come 254, not 1", x.touch(1, 254, 1, 0), 8);
        CHECK.due("come 256", x.touch(1, 256, 0, 0), BAD);
        CHECK.due("come -1", x.touch(1, -1, 0, 0), BAD);
        CHECK.due("not 256", x.touch(1, 0, 256, 0), BAD);
        CHECK.due("not -1", x.touch(1, 0, -1, 0), BAD);
        CHECK.due("what 2", x.touch(1, 1, 0, 2), BAD);
        CHECK.due("what -1", x.touch(1, 1, 0, -1), BAD);
        CHECK.due("A as both", x.touch(1, 1, 1, 0), BAD);
        CHECK.due("H as both", x.touch(9, 129, 130, 1), BAD);
        CHECK.due("all as both", x.touch(1, 255, 255, 0), BAD);
    }

    // ---- KEEP OFF

    private static void keepOffWeeks() {
        CHECK.sentence("Part 3", "so that a BIG one does not come in weeks 1 to k (1 to 9; no LAYINGS)");
        SmallFirst x = rounds();
        swept("H in weeks 1 to 8", x, 8, 7, "");
        swept("H in weeks 1 to 9", x, 9, 7, "a");
        swept("A in week 1", x, 1, 0, "a");
        swept("B in week 1", x, 1, 1, "");
        swept("B in weeks 1 and 2", x, 2, 1, "a");
        swept("G in weeks 1 to 3", x, 3, 6, "");
        swept("G in weeks 1 to 4", x, 4, 6, "d");
        CHECK.due("k 0", x.keepOff(0, 0, 0), BAD);
        CHECK.due("k 10", x.keepOff(10, 0, 0), BAD);
        x.lay(8, 2, 0);
        x.lay(0, 0, 0);
        x.lay(1, 6, 1);
        swept("no LAYINGS", x, 9, 7, "a");
        swept("no LAYINGS, G", x, 2, 6, "");
        CHECK.due("FIRST stays", x.count(7), bits("ad"));
        SmallFirst early = Check.house("a+A;b+B;h+H", "Ab", "ah");
        swept("it came in week 1 and not in week k", early, 9, 7, "h");
    }

    private static void keepOffFewest() {
        CHECK.sentence("Part 3", "KEEP OFF: the fewest SMALL things of FIRST swept");
        swept("none lies", Check.house(ALL_FOR_A, "", ""), 9, 0, "");
        swept("all eight", Check.house(ALL_FOR_A, "", "abcdefgh"), 1, 0, "abcdefgh");
        swept("just those that lie", Check.house(ALL_FOR_A, "", "bdh"), 1, 0, "bdh");
        swept("one that bars is not laid", Check.house("a+A;b-A", "", "a"), 1, 0, "a");
        swept("one that bars lies", Check.house("a+A;b-A", "", "ab"), 9, 0, "");
        swept("one of a pair", Check.house("gh+A", "", "gh"), 1, 0, "g");
        swept("h is in all pairs", Check.house("ah+A;bh+A;ch+A", "", "abch"), 1, 0, "h");
        CHECK.sentence("Part 3", "of like ones the least bits: how many; as bits; NONE. BARS");
        swept("bc are less than ad", Check.house("ab+A;ac+A;bd+A;cd+A", "", "abcd"), 1, 0, "bc");
        swept("to sweep a bar would not do", Check.house("a+A;b+B;c-B", "Bb;Bc", "abc"), 9, 1, "");
    }

    // All of FIRST swept always does, so that NONE never comes.
    private static void keepOff() {
        CHECK.sentence("Promise 18", "KEEP OFF: how many (what = 0), as bits (1); NONE. BAD.");
        SmallFirst x = Check.house(KEEP_LAWS, KEEP_DUST);
        for (int set = 0; set < 256; set += 15) {
            x.first(set);
            CHECK.due("how many of " + set, x.keepOff(9, 7, 0), set >> 7);
            CHECK.due("bits of " + set, x.keepOff(9, 7, 1), set & 128);
        }
        CHECK.due("big -1", x.keepOff(1, -1, 0), BAD);
        CHECK.due("big 8", x.keepOff(1, 8, 0), BAD);
        CHECK.due("what -1", x.keepOff(1, 0, -1), BAD);
        CHECK.due("what 2", x.keepOff(1, 0, 2), BAD);
        CHECK.due("a new object, how many", new SmallFirst().keepOff(9, 7, 0), 0);
        CHECK.due("a new object, bits", new SmallFirst().keepOff(9, 7, 1), 0);
    }

    // ---- BARS

    private static void bars() {
        CHECK.sentence("Part 3", "BARS: of all sets of SMALL things that make a law with + for a BIG thing HOLD, in how many it does not come.");
        CHECK.due("no laws", new SmallFirst().bars(0), 0);
        CHECK.due("none with -", Check.house(ALL_FOR_A, "").bars(0), 0);
        CHECK.due("none with +", Check.house("a-A;b-A", "").bars(0), 0);
        CHECK.due("all but the empty set", Check.house(ALL_FOR_A + ";" + ALL_FOR_A.replace('+', '-'), "").bars(0), 255);
        CHECK.due("a and b", Check.house("a+A;b-A", "").bars(0), 64);
        CHECK.due("a twice", Check.house("a+A;a-A", "").bars(0), 128);
        CHECK.due("two pairs", Check.house("ab+A;cd-A", "").bars(0), 16);
        CHECK.due("of another BIG thing", Check.house("a+A;b-B", "").bars(0), 0);
        CHECK.sentence("Promise 19", "BARS. BAD.");
        SmallFirst x = Check.house("a+A;b-A;g+H;h-H;gh-H", "", "a");
        CHECK.due("the least", x.bars(0), 64);
        CHECK.due("the greatest", x.bars(7), 64);
        CHECK.due("-1", x.bars(-1), BAD);
        CHECK.due("8", x.bars(8), BAD);
        x.lay(0, 1, 1);
        x.first(255);
        CHECK.due("by neither FIRST nor LAYINGS", x.bars(0), 64);
    }

    // ---- TURNS

    private static void plays(String row, SmallFirst x, int[] comes, int[] what) {
        for (int n = 0; n <= 4; n++) {
            CHECK.due(row + ", n " + n, x.play(n, 0, 0), comes[n]);
            CHECK.due(row + ", n " + n + ", what", x.play(n, 0, 1), what[n]);
        }
    }

    private static void turnsN() {
        CHECK.sentence("Part 3", "TURNS: two touch by turns one SMALL thing each (or none), n (0 to 4) times together, of FIRST");
        plays("a is needed", Check.house("a+A", "", ""), new int[] {0, 1, 0, 1, 0}, new int[] {-1, 0, -1, -1, -1});
        plays("a is needed and lies", Check.house("a+A", "", "a"), new int[] {1, 1, 0, 1, 0},
            new int[] {-1, -1, -1, -1, -1});
        plays("a or b", Check.house("a+A;b+A", "", ""), new int[] {0, 1, 0, 1, 0}, new int[] {-1, 0, -1, -1, -1});
        plays("a or b, a lies", Check.house("a+A;b+A", "", "a"), new int[] {1, 1, 1, 1, 1},
            new int[] {-1, -1, 1, -1, 1});
        plays("a or b, both lie", Check.house("a+A;b+A", "", "ab"), new int[] {1, 1, 1, 1, 1},
            new int[] {-1, -1, -1, -1, -1});
        plays("a and b", Check.house("ab+A", "", ""), new int[] {0, 0, 0, 0, 0}, new int[] {-1, -1, -1, -1, -1});
        plays("no law", new SmallFirst(), new int[] {0, 0, 0, 0, 0}, new int[] {-1, -1, -1, -1, -1});
        plays("a must be swept at once, else b is, too", Check.house("a-A;b+A", "", "ab"), new int[] {0, 1, 0, 1, 0},
            new int[] {-1, 0, -1, 0, -1});
        plays("each of all", Check.house(ALL_FOR_A, "", "h"), new int[] {1, 1, 1, 1, 1}, new int[] {-1, -1, 0, -1, 0});
    }

    private static void turnsWhat() {
        CHECK.sentence("Part 3", "(of those by which it comes the least; NONE: it need not touch any, as that does, too; none will do; n is 0)");
        CHECK.due("the least of b and c", Check.house("a+A;b+A;c+A", "", "a").play(2, 0, 1), 1);
        CHECK.due("the least of a and b", Check.house("a+A;b+A;c+A", "", "c").play(2, 0, 1), 0);
        CHECK.due("the greatest", Check.house("h+A", "", "").play(1, 0, 1), 7);
        CHECK.due("one is swept", Check.house("a+A;h-A", "", "ah").play(1, 0, 1), 7);
        CHECK.due("to lay a or to sweep h", Check.house("a+B;a+A;g+A;h-A;b-A", "", "gh").play(1, 0, 1), 7);
        CHECK.due("it need not touch any", Check.house("a+A", "", "a").play(1, 0, 1), NONE);
        CHECK.due("none will do", Check.house("ab+A", "", "").play(1, 0, 1), NONE);
        CHECK.due("n is 0, and it comes", Check.house("a+A", "", "a").play(0, 0, 1), NONE);
        CHECK.due("n is 0, and one would do", Check.house("a+A", "", "").play(0, 0, 1), NONE);
        CHECK.sentence("Part 3", "the first one wants a BIG thing to come in week 1, the other one not (no LAYINGS)");
        SmallFirst x = Check.house("a+A;b+B", "Ab;Ba", "b");
        x.lay(0, 0, 1);
        CHECK.due("in week 1 and not in week 2", x.play(0, 0, 0), 0);
        CHECK.due("no LAYINGS", x.play(1, 0, 1), 0);
        CHECK.due("FIRST stays", x.count(7), 2);
    }

    private static void play() {
        CHECK.sentence("Promise 20", "TURNS: 1, 0 (what = 0), what the first one touches (1; NONE). BAD.");
        SmallFirst x = Check.house("a+A;h+H", "", "");
        CHECK.due("n 4", x.play(4, 7, 0), 0);
        CHECK.due("n 3, H", x.play(3, 7, 0), 1);
        CHECK.due("n 1, H", x.play(1, 7, 1), 7);
        CHECK.due("n -1", x.play(-1, 0, 0), BAD);
        CHECK.due("n 5", x.play(5, 0, 0), BAD);
        CHECK.due("n -1, what", x.play(-1, 0, 1), BAD);
        CHECK.due("n 5, what", x.play(5, 0, 1), BAD);
        CHECK.due("big -1", x.play(0, -1, 0), BAD);
        CHECK.due("big 8", x.play(0, 8, 0), BAD);
        CHECK.due("what -1", x.play(0, 0, -1), BAD);
        CHECK.due("what 2", x.play(4, 7, 2), BAD);
    }

    // ---- STEADY, ROUND

    private static void steady() {
        CHECK.sentence("Part 3", "STEADY: sets of SMALL things that are LAYS of what COMES of them: how many; the i-th; NONE.");
        SmallFirst none = new SmallFirst();
        CHECK.due("the empty set alone", none.steady(NONE), 1);
        CHECK.due("it is 0", none.steady(0), 0);
        CHECK.due("there is no other", none.steady(1), NONE);
        SmallFirst pair = Check.house("ab+A;c+B;h+C", "Aa;Ab;Bd;Ch", "c");
        CHECK.due("how many", pair.steady(NONE), 4);
        CHECK.due("0", pair.steady(0), 0);
        CHECK.due("1", pair.steady(1), bits("ab"));
        CHECK.due("2", pair.steady(2), bits("h"));
        CHECK.due("3", pair.steady(3), bits("abh"));
        CHECK.due("no fifth", pair.steady(4), NONE);
        CHECK.sentence("Promise 21", "STEADY: how many (i = NONE), the i-th (0 to 255; NONE). BAD.");
        SmallFirst all = Check.house(KEEP_LAWS, KEEP_DUST, "c");
        CHECK.due("all 256", all.steady(NONE), 256);
        for (int i = 0; i < 256; i++) {
            CHECK.due("the i-th, " + i, all.steady(i), i);
        }
        CHECK.due("256", all.steady(256), BAD);
        CHECK.due("-2", all.steady(-2), BAD);
        CHECK.due("255 of few", none.steady(255), NONE);
        CHECK.due("256 of few", none.steady(256), BAD);
    }

    private static void rounds(String row, SmallFirst x, String set, int behind, int weeks) {
        CHECK.due(row + ", behind how many weeks", x.round(bits(set), 0), behind);
        CHECK.due(row + ", how many it is", x.round(bits(set), 1), weeks);
    }

    private static void roundFirst() {
        CHECK.sentence("Part 3", "behind how many weeks (each: LAYS of what COMES) it is first one that was there ahead (it, too); how many weeks such a round is.");
        SmallFirst ring = Check.house(KEEP_LAWS, "Ab;Bc;Cd;De;Ef;Fg;Gh;Ha", "b");
        rounds("none lies", ring, "", 1, 1);
        rounds("all lie", ring, "abcdefgh", 1, 1);
        rounds("every other one", ring, "aceg", 2, 2);
        rounds("every fourth one", ring, "ae", 4, 4);
        rounds("one", ring, "a", 8, 8);
        SmallFirst chain = Check.house(KEEP_LAWS, "Ab;Bc;Cd;De;Ef;Fg;Gh", "b");
        rounds("a chain of eight that ends", chain, "a", 9, 1);
        rounds("its last one", chain, "h", 2, 1);
        rounds("its first and its last one", chain, "ah", 9, 1);
        rounds("no laws", new SmallFirst(), "a", 2, 1);
        rounds("no laws, none lies", new SmallFirst(), "", 1, 1);
        SmallFirst late = Check.house(KEEP_LAWS, "Ab;Bc;Cd;De;Ef;Fg;Gh;Hg", "b");
        rounds("a chain of six into a round of two", late, "a", 8, 2);
        rounds("in the round", late, "g", 2, 2);
        SmallFirst longest = Check.house("e+B;ac+F;ch-A;ae+D;fh-F;f+F;fh+H;ef-D;ac+A;df+D;ab+C;h+A;cg+H;c+D;g+E;ad+G",
            "Da;Dg;Ce;Fa;Ea;Bf;Ha;Fd;Eb;Ca;Gh;Ac");
        rounds("more weeks than 30", longest, "acdeh", 74, 54);
        SmallFirst wide = Check.house("df+D;bd+F;dg-H;dg+G;gh+D;be+E;bc+B;fg+D;bd+D;f+C;h+G;dh-D;dg+F;ah+A;a-A;bf+A",
            "Ba;Bf;De;Gf;Ad;Fh;Cf;Af;Ec;Cb;Gg;Ff");
        rounds("a round of 42", wide, "abcdefgh", 43, 42);
    }

    private static void round() {
        CHECK.sentence("Promise 22", "ROUND: behind how many weeks (what = 0), how many it is (1). BAD.");
        SmallFirst x = Check.house(KEEP_LAWS, KEEP_DUST, "ab");
        x.lay(0, 0, 0);
        x.lay(1, 7, 1);
        rounds("0", x, "", 1, 1);
        rounds("255", x, "abcdefgh", 1, 1);
        CHECK.due("-1", x.round(-1, 0), BAD);
        CHECK.due("256", x.round(256, 0), BAD);
        CHECK.due("what -1", x.round(0, -1), BAD);
        CHECK.due("what 2", x.round(255, 2), BAD);
    }
}
