/** Promises 1 to 8: the new object, both texts, and FIRST. */
public final class LawsTest {
    private static final Check CHECK = new Check("LawsTest");

    public static void main(String[] args) {
        newObject();
        type();
        wipe();
        undo();
        faultOfLaws();
        faultOfDust();
        faultEmptiesTheText();
        rule();
        dust();
        first();
        undoneLawsAreGone();
        CHECK.end();
    }

    private static void newObject() {
        SmallFirst x = new SmallFirst();
        for (int what = 0; what <= 8; what++) {
            CHECK.due("1: count(" + what + ")", x.count(what), 0);
        }
        CHECK.due("1: fault(0)", x.fault(0), SmallFirst.NONE);
        CHECK.due("1: fault(1)", x.fault(1), SmallFirst.NONE);
        CHECK.due("1: comes(255)", x.comes(255), 0);
        CHECK.due("1: lays(255)", x.lays(255), 0);
        for (int s = 0; s < 4; s++) {
            CHECK.due("1: lose(" + s + ")", x.lose(s), -11);
        }
        CHECK.due("1: NONE", SmallFirst.NONE, -1);
        CHECK.due("1: BAD", SmallFirst.BAD, -2);
        CHECK.due("1: NOT", SmallFirst.NOT, -3);
        CHECK.due("1: FULL", SmallFirst.FULL, -4);
    }

    private static void type() {
        SmallFirst x = new SmallFirst();
        CHECK.due("2: byte 0", x.type(0, 0), 1);
        CHECK.due("2: byte 255", x.type(0, 255), 2);
        CHECK.due("2: another text", x.type(1, 255), 1);
        CHECK.due("2: byte -1", x.type(0, -1), SmallFirst.BAD);
        CHECK.due("2: byte 256", x.type(0, 256), SmallFirst.BAD);
        CHECK.due("2: text -1", x.type(-1, 0), SmallFirst.BAD);
        CHECK.due("2: text 2", x.type(2, 0), SmallFirst.BAD);
        CHECK.due("2: nothing changed", x.count(2) * 10 + x.count(3), 21);
        fill(x, 0, 3, 79);
        fill(x, 1, 2, 35);
        CHECK.due("2: the least int", x.type(0, Integer.MIN_VALUE), SmallFirst.BAD);
        CHECK.due("2: bytes of text 0", x.count(2), 79);
        CHECK.due("2: bytes of text 1", x.count(3), 35);
    }

    private static void fill(SmallFirst x, int text, int from, int most) {
        for (int n = from; n <= most; n++) {
            CHECK.due("2: byte " + n + " of text " + text, x.type(text, 'a'), n);
        }
        CHECK.due("2: full", x.type(text, 'a'), SmallFirst.FULL);
        CHECK.due("2: BAD ahead of FULL", x.type(text, 256), SmallFirst.BAD);
    }

    private static void wipe() {
        SmallFirst x = Check.house("a+A;b-A", "A");
        CHECK.due("3: text -1", x.wipe(-1), SmallFirst.BAD);
        CHECK.due("3: text 2", x.wipe(2), SmallFirst.BAD);
        CHECK.due("3: text 0", x.wipe(0), 7);
        CHECK.due("3: no law", x.count(0), 0);
        CHECK.due("3: nothing comes", x.comes(1), 0);
        CHECK.due("3: the other one is there", x.count(3), 1);
        CHECK.due("3: text 1", x.wipe(1), 1);
        CHECK.due("3: its fault is gone", x.fault(1), SmallFirst.NONE);
        CHECK.due("3: an empty one", x.wipe(1), 0);
        Check.type(x, 0, "c+B");
        CHECK.due("3: typed anew", x.comes(4), 2);
        SmallFirst full = Check.house("", "A".repeat(35));
        CHECK.due("3: a full one", full.wipe(1), 35);
        CHECK.due("3: has room again", full.type(1, 'A'), 1);
    }

    private static void undo() {
        SmallFirst x = Check.house("a+A;b", "Hh");
        CHECK.due("4: text -1", x.undo(-1), SmallFirst.BAD);
        CHECK.due("4: text 2", x.undo(2), SmallFirst.BAD);
        CHECK.due("4: no law by fault", x.comes(1), 0);
        CHECK.due("4: b is undone", x.undo(0), 4);
        CHECK.due("4: ; is undone", x.undo(0), 3);
        CHECK.due("4: the law is back", x.comes(1), 1);
        CHECK.due("4: A is undone", x.undo(0), 2);
        Check.type(x, 0, "B");
        CHECK.due("4: another one comes", x.comes(1), 2);
        CHECK.due("4: text 1", x.undo(1), 1);
        CHECK.due("4: text 1, the last", x.undo(1), 0);
        CHECK.due("4: empty", x.undo(1), SmallFirst.NOT);
        CHECK.due("4: the other one isn't", x.count(2), 3);
    }

    private static void faultOfLaws() {
        String sixteen = "a+A;".repeat(15) + "a+A";
        String longest = "ab+A;".repeat(15) + "gh-H";
        laws("", -1);
        laws("a+A", -1);
        laws("h-H", -1);
        laws("ah+A;gh-H", -1);
        laws("a", 1);
        laws("a+", 2);
        laws("ab", 2);
        laws("ab-", 3);
        laws("a+A;", 4);
        laws("i", 0);
        laws("`", 0);
        laws("A", 0);
        laws(";", 0);
        laws("+", 0);
        laws("aa+A", 1);
        laws("ba+A", 1);
        laws("ai+A", 1);
        laws("abc+A", 2);
        laws("aA", 1);
        laws("a*A", 1);
        laws("a+a", 2);
        laws("a+I", 2);
        laws("a+@", 2);
        laws("a++A", 2);
        laws("a+AA", 3);
        laws("a+A,", 3);
        laws("a+A;;", 4);
        laws("a+A;b+B;c", 9);
        laws(" a+A", 0);
        laws("a+A\u0000", 3);
        laws("a+A\u00ff", 3);
        laws(longest, -1);
        laws(longest.substring(0, 78) + "h", 78);
        laws(sixteen, -1);
        laws(sixteen + ";", 64);
        laws(sixteen + ";b", 64);
        laws(sixteen + ";b+B", 64);
        laws(sixteen + "b", 63);
        SmallFirst x = new SmallFirst();
        CHECK.due("5: text -1", x.fault(-1), SmallFirst.BAD);
        CHECK.due("5: text 2", x.fault(2), SmallFirst.BAD);
    }

    private static void laws(String text, int want) {
        CHECK.due("5: fault of laws " + text, Check.house(text, "").fault(0), want);
    }

    private static void faultOfDust() {
        dusts("", -1);
        dusts("Aa", -1);
        dusts("Hh;Ah;Aa", -1);
        dusts("Aa;".repeat(11) + "Aa", -1);
        dusts("A", 1);
        dusts("Aa;", 3);
        dusts("Aa;B", 4);
        dusts("a", 0);
        dusts("I", 0);
        dusts("@", 0);
        dusts(";", 0);
        dusts("AA", 1);
        dusts("Ai", 1);
        dusts("A`", 1);
        dusts("Aab", 2);
        dusts("Aa;;", 3);
        dusts("Aa;".repeat(11) + "AA", 34);
    }

    private static void dusts(String text, int want) {
        CHECK.due("5: fault of dust " + text, Check.house("", text).fault(1), want);
    }

    private static void faultEmptiesTheText() {
        SmallFirst x = Check.house("a+A;b+", "Aa;B");
        CHECK.due("5: no laws", x.count(0), 0);
        CHECK.due("5: none with +", x.count(6), 0);
        CHECK.due("5: no dust", x.count(1), 0);
        CHECK.due("5: its bytes stay", x.count(2), 6);
        CHECK.due("5: rule", x.rule(0, 0), SmallFirst.BAD);
        CHECK.due("5: dust", x.dust(0, 0), SmallFirst.BAD);
        CHECK.due("5: lays", x.lays(255), 0);
        Check.type(x, 0, "B");
        CHECK.due("5: well again", x.comes(3), 3);
    }

    private static void rule() {
        SmallFirst x = Check.house("a+A;bh-C;h+H", "");
        CHECK.due("6: small of 0", x.rule(0, 0), 1);
        CHECK.due("6: + of 0", x.rule(0, 1), 1);
        CHECK.due("6: big of 0", x.rule(0, 2), 0);
        CHECK.due("6: small of 1", x.rule(1, 0), 130);
        CHECK.due("6: + of 1", x.rule(1, 1), 0);
        CHECK.due("6: big of 1", x.rule(1, 2), 2);
        CHECK.due("6: small of 2", x.rule(2, 0), 128);
        CHECK.due("6: + of 2", x.rule(2, 1), 1);
        CHECK.due("6: big of 2", x.rule(2, 2), 7);
        CHECK.due("6: no law 3", x.rule(3, 0), SmallFirst.BAD);
        CHECK.due("6: no law -1", x.rule(-1, 0), SmallFirst.BAD);
        CHECK.due("6: no law 16", x.rule(16, 0), SmallFirst.BAD);
        CHECK.due("6: what -1", x.rule(0, -1), SmallFirst.BAD);
        CHECK.due("6: what 3", x.rule(0, 3), SmallFirst.BAD);
        SmallFirst most = Check.house("ab+A;".repeat(15) + "gh-H", "");
        CHECK.due("6: the last of 16", most.rule(15, 0), 192);
        CHECK.due("6: behind it", most.rule(16, 0), SmallFirst.BAD);
    }

    private static void dust() {
        SmallFirst x = Check.house("", "Ah;Ca");
        CHECK.due("7: big of 0", x.dust(0, 0), 0);
        CHECK.due("7: small of 0", x.dust(0, 1), 7);
        CHECK.due("7: big of 1", x.dust(1, 0), 2);
        CHECK.due("7: small of 1", x.dust(1, 1), 0);
        CHECK.due("7: no dust 2", x.dust(2, 0), SmallFirst.BAD);
        CHECK.due("7: no dust -1", x.dust(-1, 0), SmallFirst.BAD);
        CHECK.due("7: what -1", x.dust(0, -1), SmallFirst.BAD);
        CHECK.due("7: what 2", x.dust(0, 2), SmallFirst.BAD);
        SmallFirst most = Check.house("", "Aa;".repeat(11) + "Hg");
        CHECK.due("7: the last of 12", most.dust(11, 0) * 10 + most.dust(11, 1), 76);
        CHECK.due("7: behind it", most.dust(12, 0), SmallFirst.BAD);
    }

    // Rows of an object are used again: nothing of an undone law or dust may be left in them.
    private static void undoneLawsAreGone() {
        SmallFirst x = Check.house("a+A;a+B", "Aa;Ab");
        for (int i = 0; i < 4; i++) {
            x.undo(0);
        }
        for (int i = 0; i < 3; i++) {
            x.undo(1);
        }
        CHECK.due("4: laws", x.count(0), 1);
        CHECK.due("4: laws with +", x.count(6), 1);
        CHECK.due("4: two", x.two(), SmallFirst.NONE);
        CHECK.due("4: comes", x.comes(1), 1);
        CHECK.due("4: rule", x.rule(1, 0), SmallFirst.BAD);
        CHECK.due("4: lays", x.lays(1), 1);
        CHECK.due("4: dust", x.dust(1, 0), SmallFirst.BAD);
    }

    private static void first() {
        SmallFirst x = new SmallFirst();
        CHECK.due("8: 0 at first", x.first(255), 0);
        CHECK.due("8: what it was", x.first(6), 255);
        CHECK.due("8: -1", x.first(-1), SmallFirst.BAD);
        CHECK.due("8: 256", x.first(256), SmallFirst.BAD);
        CHECK.due("8: nothing changed", x.count(7), 6);
        CHECK.due("8: week 0", x.week(0, 0), 6);
        CHECK.due("8: 0", x.first(0), 6);
    }
}
