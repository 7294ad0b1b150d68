import java.util.ArrayList;
import java.util.List;
import java.util.function.IntPredicate;

/** The sentences on both texts and on a new object (Terms, promises 1 to 8), edge by edge. */
public final class LawsEdgesTest {
    private static final Check CHECK = new Check("LawsEdgesTest");
    private static final int NONE = SmallFirst.NONE, BAD = SmallFirst.BAD, NOT = SmallFirst.NOT, FULL = SmallFirst.FULL;
    private static final String SIXTEEN = "a+A;".repeat(15) + "h-H";
    private static final String LONGEST_SIXTEEN = "ab+A;".repeat(15) + "gh-H";
    private static final String TWELVE = "Aa;".repeat(11) + "Hh";

    public static void main(String[] args) {
        letters();
        bytesOfLaws();
        mostLaws();
        semicolonsOfLaws();
        lettersOfALaw();
        signOfALaw();
        bigOfALaw();
        bytesOfDust();
        mostDust();
        semicolonsOfDust();
        lettersOfDust();
        faultIsTheFirst();
        faultOfAnEmptyOne();
        faultOfOneNotEnded();
        faultOfALawTooMany();
        faultyLawsAreAsEmpty();
        faultyDustIsAsEmpty();
        aNewObject();
        objectsAreApart();
        calls512();
        type();
        wipe();
        undo();
        fault();
        rule();
        dust();
        first();
        CHECK.everyPromise(1, 8);
        CHECK.end();
    }

    private static int faultOf(int text, String bytes) {
        return (text == 0 ? Check.house(bytes, "") : Check.house("", bytes)).fault(text);
    }

    private static void fault(int text, String bytes, int want) {
        CHECK.due("the fault of " + bytes, faultOf(text, bytes), want);
    }

    /** Each of the 256 bytes behind some others: where it goes on the fault is the text's end, else its place. */
    private static void goesOn(int text, String behind, IntPredicate may, boolean isWhole) {
        for (int b = 0; b < 256; b++) {
            int end = isWhole ? NONE : behind.length() + 1;
            fault(text, behind + (char) b, may.test(b) ? end : behind.length());
        }
    }

    private static boolean isSmall(int b) {
        return "abcdefgh".indexOf(b) >= 0;
    }

    private static boolean isBig(int b) {
        return "ABCDEFGH".indexOf(b) >= 0;
    }

    // ---- Terms

    private static void letters() {
        CHECK.sentence("Part 1", "SMALL things are a to h (0 to 7), BIG ones A to H (0 to 7); sets of either are bits.");
        for (int i = 0; i < 8; i++) {
            String law = "abcdefgh".charAt(i) + "+" + "ABCDEFGH".charAt(i);
            SmallFirst x = Check.house(law, "ABCDEFGH".substring(i, i + 1) + "abcdefgh".charAt(i));
            CHECK.due(law + ", rule(0, 0)", x.rule(0, 0), new int[] {1, 2, 4, 8, 16, 32, 64, 128}[i]);
            CHECK.due(law + ", rule(0, 2)", x.rule(0, 2), i);
            CHECK.due(law + ", dust(0, 0)", x.dust(0, 0), i);
            CHECK.due(law + ", dust(0, 1)", x.dust(0, 1), i);
        }
    }

    private static void bytesOfLaws() {
        CHECK.sentence("Terms", "LAWS are a text of up to 79 bytes (text 0)");
        SmallFirst x = new SmallFirst();
        for (int n = 1; n <= 79; n++) {
            CHECK.due("byte " + n, x.type(0, LONGEST_SIXTEEN.charAt(n - 1)), n);
        }
        CHECK.due("well with 79", x.fault(0), NONE);
        CHECK.due("byte 80", x.type(0, ';'), FULL);
        CHECK.due("still well", x.fault(0), NONE);
        CHECK.due("bytes", x.count(2), 79);
        CHECK.due("one is undone", x.undo(0), 78);
        CHECK.due("there is room for one", x.type(0, 'A'), 79);
        CHECK.due("and for no other", x.type(0, 'A'), FULL);
        CHECK.due("it is the last one", x.rule(15, 2), 0);
    }

    private static void mostLaws() {
        CHECK.sentence("Terms", "16 at most (0 on)");
        for (String laws : new String[] {SIXTEEN, LONGEST_SIXTEEN}) {
            SmallFirst x = Check.house(laws, "");
            CHECK.due("laws", x.count(0), 16);
            CHECK.due("law 0", x.rule(0, 2), 0);
            CHECK.due("law 15", x.rule(15, 2), 7);
            CHECK.due("law 15 is with -", x.rule(15, 1), 0);
            CHECK.due("law 16", x.rule(16, 2), BAD);
            CHECK.due("law -1", x.rule(-1, 2), BAD);
        }
        SmallFirst one = Check.house("c-D", "");
        CHECK.due("a single one is law 0", one.rule(0, 0), 4);
        CHECK.due("there is no law 1", one.rule(1, 0), BAD);
    }

    private static void semicolonsOfLaws() {
        CHECK.sentence("Terms", "with ; between them: one or two letters a to h");
        fault(0, "a+A;b+B", NONE);
        fault(0, ";a+A", 0);
        fault(0, "a+A;;b+B", 4);
        fault(0, "a+A;", 4);
        fault(0, "a+Ab+B", 3);
        fault(0, ";", 0);
        goesOn(0, "a+A", b -> b == ';', false);
        goesOn(0, "ab-H;c+C", b -> b == ';', false);
    }

    private static void lettersOfALaw() {
        CHECK.sentence("Terms", "one or two letters a to h (two in rising order)");
        for (char one = 'a'; one <= 'h'; one++) {
            fault(0, one + "+A", NONE);
            for (char two = 'a'; two <= 'h'; two++) {
                fault(0, "" + one + two + "-B", one < two ? NONE : 1);
            }
        }
        fault(0, "+A", 0);
        fault(0, "abc+A", 2);
        fault(0, "abb+A", 2);
        fault(0, "ghh+A", 2);
        goesOn(0, "", LawsEdgesTest::isSmall, false);
        goesOn(0, "a+A;", LawsEdgesTest::isSmall, false);
        goesOn(0, "d", b -> b == '+' || b == '-' || b >= 'e' && b <= 'h', false);
        goesOn(0, "h", b -> b == '+' || b == '-', false);
    }

    private static void signOfALaw() {
        CHECK.sentence("Terms", "+ or -, and a letter A to H.");
        goesOn(0, "ab", b -> b == '+' || b == '-', false);
        goesOn(0, "gh", b -> b == '+' || b == '-', false);
        fault(0, "aA", 1);
        fault(0, "a++A", 2);
        fault(0, "a+-A", 2);
        CHECK.due("+ is told as 1", Check.house("a+A", "").rule(0, 1), 1);
        CHECK.due("- is told as 0", Check.house("a-A", "").rule(0, 1), 0);
    }

    private static void bigOfALaw() {
        CHECK.sentence("Terms", "and a letter A to H.");
        goesOn(0, "a+", LawsEdgesTest::isBig, true);
        goesOn(0, "gh-", LawsEdgesTest::isBig, true);
        goesOn(0, "a+A;h-", LawsEdgesTest::isBig, true);
        fault(0, "a+AB", 3);
        fault(0, "a+;", 2);
    }

    private static void bytesOfDust() {
        CHECK.sentence("Terms", "DUST is a text of up to 35 bytes (text 1)");
        SmallFirst x = new SmallFirst();
        for (int n = 1; n <= 35; n++) {
            CHECK.due("byte " + n, x.type(1, TWELVE.charAt(n - 1)), n);
        }
        CHECK.due("well with 35", x.fault(1), NONE);
        CHECK.due("byte 36", x.type(1, ';'), FULL);
        CHECK.due("still well", x.fault(1), NONE);
        CHECK.due("bytes", x.count(3), 35);
        CHECK.due("the other text is empty", x.count(2), 0);
        CHECK.due("one is undone", x.undo(1), 34);
        CHECK.due("there is room for one", x.type(1, 'a'), 35);
        CHECK.due("and for no other", x.type(1, 'a'), FULL);
        CHECK.due("it is the last one", x.dust(11, 1), 0);
    }

    // Twelve fill all 35 bytes, so that a dust too many has no room for its first byte.
    private static void mostDust() {
        CHECK.sentence("Terms", "12 at most (0 on)");
        SmallFirst x = Check.house("", TWELVE);
        CHECK.due("dust", x.count(1), 12);
        CHECK.due("dust 0", x.dust(0, 0), 0);
        CHECK.due("dust 11", x.dust(11, 0), 7);
        CHECK.due("dust 12", x.dust(12, 0), BAD);
        CHECK.due("dust -1", x.dust(-1, 0), BAD);
        CHECK.due("a ; behind twelve", x.type(1, ';'), FULL);
        CHECK.due("all twelve lay", x.lays(255), Check.bits("ah"));
        SmallFirst one = Check.house("", "Ch");
        CHECK.due("a single one is dust 0", one.dust(0, 0), 2);
        CHECK.due("there is no dust 1", one.dust(1, 0), BAD);
    }

    private static void semicolonsOfDust() {
        CHECK.sentence("Terms", "with ; between them: a letter A to H and a letter a to h.");
        fault(1, "Aa;Bb", NONE);
        fault(1, ";Aa", 0);
        fault(1, "Aa;;Bb", 3);
        fault(1, "Aa;", 3);
        fault(1, "AaBb", 2);
        fault(1, ";", 0);
        goesOn(1, "Aa", b -> b == ';', false);
        goesOn(1, "Aa;Hh", b -> b == ';', false);
    }

    private static void lettersOfDust() {
        CHECK.sentence("Terms", "a letter A to H and a letter a to h.");
        goesOn(1, "", LawsEdgesTest::isBig, false);
        goesOn(1, "Bc;", LawsEdgesTest::isBig, false);
        goesOn(1, "A", LawsEdgesTest::isSmall, true);
        goesOn(1, "Bc;H", LawsEdgesTest::isSmall, true);
        fault(1, "aA", 0);
        fault(1, "AA", 1);
        fault(1, "A;", 1);
        fault(1, "Aab", 2);
    }

    private static void faultIsTheFirst() {
        CHECK.sentence("Terms", "The FAULT of a text is the place of the first byte with which it cannot go on");
        SmallFirst x = Check.house("a+A;x", "Aa;x");
        for (int n = 0; n < 20; n++) {
            CHECK.due("of laws, behind " + n + " others", x.fault(0), 4);
            CHECK.due("of dust, behind " + n + " others", x.fault(1), 3);
            x.type(0, "z;a+A".charAt(n % 5));
            x.type(1, "z;Aa".charAt(n % 4));
        }
        fault(0, "\u0000".repeat(79), 0);
        fault(0, LONGEST_SIXTEEN.substring(0, 78) + "a", 78);
        fault(0, LONGEST_SIXTEEN.substring(0, 77) + "aH", 77);
        fault(1, "\u00ff".repeat(35), 0);
        fault(1, TWELVE.substring(0, 34) + "A", 34);
        fault(1, TWELVE.substring(0, 33) + "aa", 33);
    }

    private static void faultOfAnEmptyOne() {
        CHECK.sentence("Terms", "(an empty one is well;");
        SmallFirst x = new SmallFirst();
        CHECK.due("new laws", x.fault(0), NONE);
        CHECK.due("new dust", x.fault(1), NONE);
        x.type(0, 'x');
        x.type(1, 'x');
        CHECK.due("faulty laws", x.fault(0), 0);
        CHECK.due("faulty dust", x.fault(1), 0);
        x.undo(0);
        x.wipe(1);
        CHECK.due("laws, undone", x.fault(0), NONE);
        CHECK.due("dust, wiped", x.fault(1), NONE);
    }

    private static void faultOfOneNotEnded() {
        CHECK.sentence("Terms", "of one that is not ended, its end)");
        int[] laws = {NONE, 1, 2, 3, NONE, 5, 6, 7, NONE};
        for (int n = 0; n < laws.length; n++) {
            fault(0, "ab+A;c-B".substring(0, n), laws[n]);
        }
        int[] dust = {NONE, 1, NONE, 3, 4, NONE};
        for (int n = 0; n < dust.length; n++) {
            fault(1, "Aa;Bb".substring(0, n), dust[n]);
        }
        fault(0, LONGEST_SIXTEEN.substring(0, 78), 78);
        fault(1, TWELVE.substring(0, 34), 34);
        fault(1, TWELVE.substring(0, 33), 33);
        String endsAt79 = "a+A;" + "ab+A;".repeat(15);
        CHECK.due("bytes of a full text that is not ended", endsAt79.length(), 79);
        fault(0, endsAt79, 79);
        SmallFirst x = Check.house("a", "");
        CHECK.due("a", x.fault(0), 1);
        x.type(0, '+');
        CHECK.due("its end moves", x.fault(0), 2);
        x.type(0, 'A');
        CHECK.due("ended", x.fault(0), NONE);
    }

    private static void faultOfALawTooMany() {
        CHECK.sentence("Terms", "here also of the first byte of a law, a dust too many.");
        CHECK.due("bytes of sixteen", SIXTEEN.length(), 63);
        fault(0, SIXTEEN, NONE);
        fault(0, SIXTEEN + ";", 64);
        fault(0, SIXTEEN + ";a", 64);
        fault(0, SIXTEEN + ";a+", 64);
        fault(0, SIXTEEN + ";a+A", 64);
        fault(0, SIXTEEN + ";ab+A;c+C", 64);
        fault(0, SIXTEEN + ";;", 64);
        fault(0, SIXTEEN + "a", 63);
        fault(0, "a+A;".repeat(14) + "h-H", NONE);
        fault(0, "a+A;".repeat(15), 60);
        SmallFirst x = Check.house(SIXTEEN + ";b+B", "");
        CHECK.due("with 17 there is no law", x.count(0), 0);
        for (int i = 0; i < 4; i++) {
            x.undo(0);
        }
        CHECK.due("with 16 there are again", x.count(0), 16);
        CHECK.due("and they are well", x.fault(0), NONE);
    }

    // ---- as if it was empty

    private static List<Long> answers(SmallFirst x) {
        List<Long> all = new ArrayList<>();
        for (String call : new String[] {"count(0)", "count(1)", "count(6)", "rule(0, 0)", "rule(0, 1)", "rule(15, 2)",
            "dust(0, 0)", "dust(11, 1)", "judged()", "two()", "second(255)", "second(3)", "touch(1, 1, 2, 1)",
            "touch(2, 0, 1, 0)", "keepOff(9, 0, 1)", "bars(0)", "bars(1)", "play(0, 0, 0)", "play(1, 0, 1)",
            "play(4, 1, 0)", "steady(-1)", "steady(1)", "round(255, 0)", "round(255, 1)", "round(7, 0)", "moved(0)",
            "moved(1)", "cat(16, 0, 0)", "cat(3, 0, 1)", "let(16, 0)", "lot(7, 9, -1)", "lot(7, 99, 0)"}) {
            all.add(Calls.ask(x, call));
        }
        for (int set = 0; set < 256; set += 5) {
            all.add((long) x.comes(set));
            all.add((long) x.lays(set));
        }
        for (int week = 0; week < 30; week++) {
            all.add((long) x.week(week, 0));
            all.add((long) x.week(week, 1));
        }
        return all;
    }

    private static SmallFirst lived(String laws, String dust) {
        SmallFirst x = Check.house(laws, dust, "abcdh");
        x.lay(0, 7, 0);
        x.lay(3, 1, 1);
        return x;
    }

    private static final String LAWS = "a+A;a+B;c-A;bc+C;b-C;h+A";
    private static final String DUST = "Aa;Bb;Cc;Ch";

    private static void faultyLawsAreAsEmpty() {
        CHECK.sentence("Terms", "With a FAULT a text is as if it was empty.");
        List<Long> empty = answers(lived("", DUST));
        CHECK.holds("laws that are well are not", !answers(lived(LAWS, DUST)).equals(empty));
        for (String faulty : new String[] {"x" + LAWS, LAWS + ";", LAWS + "x", LAWS + ";a", LAWS + ";a+", "a+A;x;" + LAWS,
            SIXTEEN + ";a+A", LAWS + ";ba+A"}) {
            CHECK.holds("laws " + faulty, answers(lived(faulty, DUST)).equals(empty));
        }
        SmallFirst x = Check.house(LAWS, DUST, "abc");
        CHECK.due("six laws", x.count(0), 6);
        CHECK.due("B comes, A is barred", x.comes(Check.bits("ac")), Check.bits("B"));
        x.type(0, '!');
        CHECK.due("no law", x.count(0), 0);
        CHECK.due("nothing comes", x.comes(Check.bits("ac")), 0);
        CHECK.due("its bytes are there", x.count(2), LAWS.length() + 1);
        x.undo(0);
        CHECK.due("six laws again", x.count(0), 6);
        CHECK.due("it comes again", x.comes(Check.bits("ac")), Check.bits("B"));
    }

    private static void faultyDustIsAsEmpty() {
        List<Long> empty = answers(lived(LAWS, ""));
        CHECK.holds("dust that is well is not", !answers(lived(LAWS, DUST)).equals(empty));
        for (String faulty : new String[] {"x" + DUST, DUST + ";", DUST + "x", DUST + ";A", "Aa;x;" + DUST}) {
            CHECK.holds("dust " + faulty, answers(lived(LAWS, faulty)).equals(empty));
        }
        SmallFirst x = Check.house(LAWS, DUST);
        CHECK.due("A lays a", x.lays(1), 1);
        x.type(1, ';');
        CHECK.due("A lays nothing", x.lays(1), 0);
        CHECK.due("its bytes are there", x.count(3), DUST.length() + 1);
        CHECK.due("the laws are well", x.count(0), 6);
        x.type(1, 'A');
        x.type(1, 'h');
        CHECK.due("A lays a and h", x.lays(1), Check.bits("ah"));
    }

    // ---- promises 1 to 8

    private static void aNewObject() {
        CHECK.sentence("Promise 1", "No LAWS; all SHEETS are LOST.");
        SmallFirst x = new SmallFirst();
        for (int what = 0; what <= 8; what++) {
            CHECK.due("count(" + what + ")", x.count(what), 0);
        }
        CHECK.due("rule(0, 0)", x.rule(0, 0), BAD);
        CHECK.due("dust(0, 0)", x.dust(0, 0), BAD);
        CHECK.due("undo(0)", x.undo(0), NOT);
        CHECK.due("undo(1)", x.undo(1), NOT);
        CHECK.due("back()", x.back(), NOT);
        CHECK.due("forget()", x.forget(), 0);
        CHECK.due("first(0)", x.first(0), 0);
        CHECK.due("week(29, 0)", x.week(29, 0), 0);
        CHECK.due("judged()", x.judged(), NONE);
        CHECK.due("two()", x.two(), NONE);
        CHECK.due("steady(NONE): the empty set", x.steady(NONE), 1);
        CHECK.due("stands(7, 0)", x.stands(7, 0), 256);
        for (int s = 0; s < 4; s++) {
            CHECK.due("lose(" + s + ")", x.lose(s), Check.NULL);
        }
    }

    private static void objectsAreApart() {
        SmallFirst full = Houses.full();
        SmallFirst x = new SmallFirst();
        CHECK.due("a new one beside a full one: digest", x.digest(), new Plain().digest());
        CHECK.due("a new one beside a full one: sheet 0", x.lose(0), Check.NULL);
        long before = full.digest();
        x.type(0, 'x');
        x.first(1);
        x.sheet(0, 0, 1);
        x.put(0, 0, 0, 5);
        x.seen(1, 1);
        CHECK.due("the full one is as it was", full.digest(), before);
        CHECK.due("its sheet, too", full.get(0, 0, 0), 100);
    }

    private static void calls512() {
        CHECK.sentence("What it is", "An object is used for at most 512 calls after it has been made");
        SmallFirst x = new SmallFirst();
        for (int n = 1; n <= 510; n++) {
            CHECK.due("call " + n, n % 2 == 1 ? x.type(0, 'a') : x.undo(0), n % 2);
        }
        CHECK.due("call 511", x.type(0, 'b'), 1);
        CHECK.due("call 512", x.fault(0), 1);
        for (int n = 513; n <= 600; n++) {
            x.digest();
        }
        CHECK.holds("later calls only must not throw", true);
    }

    private static void type() {
        CHECK.sentence("Promise 2", "A byte (0 to 255) comes behind a text: how many. BAD; FULL.");
        for (int text = 0; text < 2; text++) {
            SmallFirst x = new SmallFirst();
            CHECK.due("byte 0", x.type(text, 0), 1);
            CHECK.due("byte 255", x.type(text, 255), 2);
            CHECK.due("byte -1", x.type(text, -1), BAD);
            CHECK.due("byte 256", x.type(text, 256), BAD);
            CHECK.due("256 more than a is not a", x.type(text, 256 + 'a'), BAD);
            CHECK.due("256 less than a is not a", x.type(text, 'a' - 256), BAD);
            CHECK.due("the least int", x.type(text, Check.LEAST), BAD);
            CHECK.due("the greatest int", x.type(text, Check.MOST), BAD);
            CHECK.due("two came", x.count(2 + text), 2);
            CHECK.due("none came to the other", x.count(3 - text), 0);
        }
        SmallFirst x = Houses.full();
        CHECK.due("a full text, BAD is first", x.type(0, 256), BAD);
        CHECK.due("a full text, BAD is first, below", x.type(1, -1), BAD);
        CHECK.due("full", x.type(0, 0), FULL);
        CHECK.due("full, too", x.type(1, 255), FULL);
        CHECK.due("there is no text 2", x.type(2, 0), BAD);
        CHECK.due("there is no text -1", x.type(-1, 0), BAD);
    }

    private static void wipe() {
        CHECK.sentence("Promise 3", "A text is empty: how many bytes it had.");
        SmallFirst x = Houses.full();
        CHECK.due("all 79", x.wipe(0), 79);
        CHECK.due("the other one has its 35", x.count(3), 35);
        CHECK.due("of an empty one", x.wipe(0), 0);
        CHECK.due("all 35", x.wipe(1), 35);
        CHECK.due("of an empty one, too", x.wipe(1), 0);
        CHECK.due("there is room again", x.type(0, 'a'), 1);
        CHECK.due("a single byte", x.wipe(0), 1);
        CHECK.due("a faulty one", Check.house("zzz", "").wipe(0), 3);
        CHECK.due("there is no text 2", x.wipe(2), BAD);
        CHECK.due("there is no text -1", x.wipe(-1), BAD);
        Check.type(x, 0, "b+B");
        CHECK.due("typed anew, nothing is left of the others", x.comes(255), 2);
    }

    private static void undo() {
        CHECK.sentence("Promise 4", "The last byte of a text is undone: how many are left. BAD; NOT: it is empty.");
        SmallFirst x = Houses.full();
        for (int left = 78; left >= 0; left--) {
            CHECK.due("of text 0", x.undo(0), left);
        }
        CHECK.due("it is empty", x.undo(0), NOT);
        CHECK.due("and stays so", x.undo(0), NOT);
        for (int left = 34; left >= 0; left--) {
            CHECK.due("of text 1", x.undo(1), left);
        }
        CHECK.due("it is empty, too", x.undo(1), NOT);
        CHECK.due("there is room", x.type(0, 'a'), 1);
        CHECK.due("none is left", x.undo(0), 0);
        CHECK.due("there is no text 2", x.undo(2), BAD);
        CHECK.due("there is no text -1", x.undo(-1), BAD);
    }

    private static void fault() {
        CHECK.sentence("Promise 5", "The FAULT of a text; NONE. BAD.");
        SmallFirst x = Check.house("a+A;", "Bb");
        CHECK.due("of text 0", x.fault(0), 4);
        CHECK.due("of text 1", x.fault(1), NONE);
        CHECK.due("there is no text 2", x.fault(2), BAD);
        CHECK.due("there is no text -1", x.fault(-1), BAD);
        CHECK.due("of a full one", Houses.full().fault(0), NONE);
        CHECK.due("of a full one, too", Houses.full().fault(1), NONE);
    }

    private static void rule() {
        CHECK.sentence("Promise 6", "its SMALL things (what = 0, bits), whether it is + (1: 1, 0), its BIG one (2). BAD.");
        SmallFirst x = Houses.full();
        String[] laws = Houses.FULL_LAWS.split(";");
        for (int i = 0; i < 16; i++) {
            CHECK.due("SMALL things of " + laws[i], x.rule(i, 0), Check.bits(laws[i].substring(0, 2)));
            CHECK.due("+ of " + laws[i], x.rule(i, 1), laws[i].charAt(2) == '+' ? 1 : 0);
            CHECK.due("the BIG one of " + laws[i], x.rule(i, 2), laws[i].charAt(3) - 'A');
        }
        CHECK.due("no law 16", x.rule(16, 0), BAD);
        CHECK.due("no law -1", x.rule(-1, 0), BAD);
        CHECK.due("what 3", x.rule(15, 3), BAD);
        CHECK.due("what -1", x.rule(0, -1), BAD);
        CHECK.due("the least bits", Check.house("a+A", "").rule(0, 0), 1);
        CHECK.due("the greatest bits", Check.house("gh+A", "").rule(0, 0), 192);
    }

    private static void dust() {
        CHECK.sentence("Promise 7", "its BIG thing (what = 0), its SMALL one (1). BAD.");
        SmallFirst x = Houses.full();
        String[] dust = Houses.FULL_DUST.split(";");
        for (int i = 0; i < 12; i++) {
            CHECK.due("the BIG thing of " + dust[i], x.dust(i, 0), dust[i].charAt(0) - 'A');
            CHECK.due("the SMALL one of " + dust[i], x.dust(i, 1), dust[i].charAt(1) - 'a');
        }
        CHECK.due("no dust 12", x.dust(12, 0), BAD);
        CHECK.due("no dust -1", x.dust(-1, 0), BAD);
        CHECK.due("what 2", x.dust(11, 2), BAD);
        CHECK.due("what -1", x.dust(0, -1), BAD);
    }

    private static void first() {
        CHECK.sentence("Promise 8", "FIRST: what it was. BAD (bits 0 to 255).");
        SmallFirst x = new SmallFirst();
        CHECK.due("0 at first", x.first(255), 0);
        CHECK.due("255 was taken", x.first(0), 255);
        CHECK.due("0 was taken", x.first(128), 0);
        CHECK.due("256", x.first(256), BAD);
        CHECK.due("-1", x.first(-1), BAD);
        CHECK.due("256 and 1", x.first(257), BAD);
        CHECK.due("128 is still there", x.first(128), 128);
        CHECK.due("the same again", x.first(128), 128);
    }
}
