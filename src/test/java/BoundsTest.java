import java.util.ArrayList;
import java.util.Arrays;
import java.util.List;
import java.util.function.Supplier;
import java.util.function.ToLongFunction;

/**
 * Each number that a call is told: the smallest and the largest that is taken, and the next one on either side,
 * which is refused; all of them together, so that no number hides another one. Each call is made on an object
 * of its own, and what it answers when it is taken is compared with the plain reading.
 */
public final class BoundsTest {
    private static final Check CHECK = new Check("BoundsTest");
    private static final long TAKEN = 0;
    private static final int[] ANY = {Check.LEAST, Check.MOST};

    public static void main(String[] args) {
        texts();
        weeks();
        plans();
        touch();
        seen();
        chances();
        sheets();
        items();
        copies();
        CHECK.everyPromise(2, 38);
        CHECK.end();
    }

    // ---- numbers around what is taken

    private static int[] from(int least, int most) {
        return new int[] {least, most};
    }

    private static boolean isIn(int v, int least, int most) {
        return v >= least && v <= most;
    }

    private static int[] around(int[] range) {
        if (range == ANY) {
            return new int[] {Check.LEAST, -1, 0, 1, Check.MOST};
        }
        int middle = range[0] + (range[1] - range[0]) / 2;
        int[] all = {Check.LEAST, range[0] - 1, range[0], middle, range[1], range[1] + 1, Check.MOST};
        return Arrays.stream(all).distinct().toArray();
    }

    /** All ways to take one number around each range. */
    private static List<int[]> corners(int[][] ranges) {
        List<int[]> all = new ArrayList<>();
        all.add(new int[0]);
        for (int[] range : ranges) {
            List<int[]> longer = new ArrayList<>();
            for (int[] begun : all) {
                for (int v : around(range)) {
                    int[] more = Arrays.copyOf(begun, begun.length + 1);
                    more[begun.length] = v;
                    longer.add(more);
                }
            }
            all = longer;
        }
        return all;
    }

    private static boolean allIn(int[] with, int[][] ranges) {
        for (int i = 0; i < with.length; i++) {
            if (!isIn(with[i], ranges[i][0], ranges[i][1])) {
                return false;
            }
        }
        return true;
    }

    /** 'refusal' answers TAKEN, or what is due. */
    private static void bounds(Supplier<SmallFirst> made, Supplier<Plain> plain, String call,
            ToLongFunction<int[]> refusal, int[]... ranges) {
        for (int[] with : corners(ranges)) {
            String row = call + Arrays.toString(with);
            long got = Calls.ask(made.get(), call, with);
            long due = refusal.applyAsLong(with);
            if (due == TAKEN) {
                CHECK.holds(row + " is taken, it answered " + got, got >= SmallFirst.NONE);
                CHECK.due(row, got, Calls.ask(plain.get(), call, with));
            } else {
                CHECK.due(row, got, due);
            }
        }
    }

    private static void bounds(Supplier<SmallFirst> made, Supplier<Plain> plain, String call, int[]... ranges) {
        long bad = call.equals("cat") ? Check.LEAST_LONG_BAD : SmallFirst.BAD;
        bounds(made, plain, call, with -> allIn(with, ranges) ? TAKEN : bad, ranges);
    }

    private static void lived(String promise, String words, String call, int[]... ranges) {
        CHECK.sentence(promise, words);
        bounds(Houses::lived, Houses::livedPlain, call, ranges);
    }

    // ---- laws, weeks, plans

    private static void texts() {
        lived("Promise 2", "A byte (0 to 255) comes behind a text: how many.", "type", from(0, 1), from(0, 255));
        bounds(Houses::empty, Plain::new, "type", from(0, 1), from(0, 255));
        lived("Promise 3", "A text is empty: how many bytes it had.", "wipe", from(0, 1));
        bounds(Houses::empty, Plain::new, "wipe", from(0, 1));
        bounds(Houses::full, Houses::fullPlain, "wipe", from(0, 1));
        lived("Promise 4", "The last byte of a text is undone: how many are left.", "undo", from(0, 1));
        bounds(Houses::full, Houses::fullPlain, "undo", from(0, 1));
        lived("Promise 5", "The FAULT of a text; NONE.", "fault", from(0, 1));
        bounds(Houses::empty, Plain::new, "fault", from(0, 1));
        lived("Promise 6", "its SMALL things (what = 0, bits), whether it is + (1: 1, 0), its BIG one (2)",
            "rule", from(0, 5), from(0, 2));
        bounds(Houses::full, Houses::fullPlain, "rule", from(0, 15), from(0, 2));
        lived("Promise 7", "its BIG thing (what = 0), its SMALL one (1)", "dust", from(0, 4), from(0, 1));
        bounds(Houses::full, Houses::fullPlain, "dust", from(0, 11), from(0, 1));
        lived("Promise 8", "BAD (bits 0 to 255)", "first", from(0, 255));
    }

    private static void weeks() {
        lived("Promise 9", "COMES, as bits. BAD (bits 0 to 255)", "comes", from(0, 255));
        lived("Promise 10", "LAYS, as bits. BAD (bits 0 to 255)", "lays", from(0, 255));
        lived("Promise 11", "in a week (0 to 29) a SMALL thing is laid (1), or swept (0)",
            "lay", from(0, 29), from(0, 7), from(0, 1));
        lived("Promise 12", "The last LAYING is undone: how many are left.", "back");
        lived("Promise 13", "In a week: SMALL things that lie (what = 0), BIG ones that came (1)",
            "week", from(0, 29), from(0, 1));
        bounds(Houses::full, Houses::fullPlain, "week", from(0, 29), from(0, 1));
        lived("Promise 14", "JUDGED; NONE.", "judged");
        lived("Promise 15", "TWO; NONE.", "two");
        lived("Promise 16", "SECOND, as bits. BAD (bits 0 to 255)", "second", from(0, 255));
    }

    private static void plans() {
        lived("Promise 18", "so that a BIG one does not come in weeks 1 to k (1 to 9; no LAYINGS)",
            "keepOff", from(1, 9), from(0, 7), from(0, 1));
        lived("Promise 19", "BARS. BAD.", "bars", from(0, 7));
        lived("Promise 20", "n (0 to 4) times together", "play", from(0, 4), from(0, 7), from(0, 1));
        lived("Promise 21", "how many (i = NONE), the i-th (0 to 255; NONE)", "steady", from(-1, 255));
        lived("Promise 22", "behind how many weeks (what = 0), how many it is (1)",
            "round", from(0, 255), from(0, 1));
    }

    private static void touch() {
        CHECK.sentence("Promise 17", "TOUCH: how many (what = 0), as bits (1); NONE. BAD: also a thing that is told as both.");
        int[][] ranges = {from(1, 9), from(0, 255), from(0, 255), from(0, 1)};
        ToLongFunction<int[]> refusal = with ->
            allIn(with, ranges) && (with[1] & with[2]) == 0 ? TAKEN : SmallFirst.BAD;
        bounds(Houses::lived, Houses::livedPlain, "touch", refusal, ranges);
        for (int thing = 0; thing < 8; thing++) {
            SmallFirst x = Houses.lived();
            int bit = 1 << thing;
            CHECK.due("told as both: " + thing, x.touch(1, bit, bit, 0), SmallFirst.BAD);
            CHECK.due("told as both among all: " + thing, x.touch(1, bit, 255, 0), SmallFirst.BAD);
            CHECK.due("told as both with all: " + thing, x.touch(1, 255, bit, 1), SmallFirst.BAD);
            CHECK.holds("told once: " + thing, x.touch(1, bit, 255 - bit, 0) >= SmallFirst.NONE);
        }
    }

    // ---- seen

    private static void seen() {
        lived("Promise 23", "SEEN more: how many.", "seen", from(0, 255), from(0, 255));
        lived("Promise 24", "All SEEN are forgotten: how many.", "forget");
        CHECK.sentence("Promise 25", "SEEN from a SHEET: its items, two for each, as many as are whole, as long as each may be");
        bounds(Houses::lived, Houses::livedPlain, "read",
            with -> !isIn(with[0], 0, 3) ? SmallFirst.BAD : with[0] == 3 ? Check.NULL : TAKEN, from(0, 3));
        bounds(Houses::full, Houses::fullPlain, "read", from(0, 3));
        lived("Promise 26", "in how many (what = 0), the set with the fewest (1; NONE)", "stands", from(0, 7), from(0, 1));
        lived("Promise 27", "WATCH; NONE. BAD.", "watch", from(0, 7));
        lived("Promise 28", "MOVED, as bits. BAD (bits 0 to 255)", "moved", from(0, 255));
    }

    private static void chances() {
        lived("Promise 29", "by p sixteenths (0 to 16) a cat touches one SMALL thing of FIRST",
            "cat", from(0, 16), from(0, 7), from(0, 1));
        lived("Promise 30", "LET. BAD.", "let", from(0, 16), from(0, 7));
        lived("Promise 31", "in each of n (0 to 99) weeks a LOT of 8 touches one SMALL thing",
            "lot", ANY, from(0, 99), from(-1, 7));
    }

    // ---- sheets

    private static void sheets() {
        CHECK.sentence("Promise 32", "A SHEET is a new row of a FORM with n items: n. BAD: SHEET, FORM, above 60; SIZE.");
        ToLongFunction<int[]> noRow = with ->
            !isIn(with[0], 0, 3) || !isIn(with[1], 0, 2) || with[2] > 60 ? SmallFirst.BAD : with[2] < 0 ? Check.SIZE : TAKEN;
        bounds(Houses::lived, Houses::livedPlain, "sheet", noRow, from(0, 3), from(0, 2), from(0, 60));
        CHECK.sentence("Promise 33", "It is LOST: how many items it had. BAD; NULL.");
        bounds(Houses::lived, Houses::livedPlain, "lose",
            with -> !isIn(with[0], 0, 3) ? SmallFirst.BAD : with[0] == 3 ? Check.NULL : TAKEN, from(0, 3));
        bounds(Houses::full, Houses::fullPlain, "lose", from(0, 3));
        CHECK.sentence("Promise 37", "SMALL things (what = 0), BIG ones (1) of weeks 0 on come to a SHEET");
        bounds(Houses::lived, Houses::livedPlain, "write", with -> !isIn(with[0], 0, 1) || !isIn(with[1], 0, 3)
            ? SmallFirst.BAD : with[1] == 3 ? Check.NULL : TAKEN, from(0, 1), from(0, 3));
        bounds(Houses::full, Houses::fullPlain, "write", from(0, 1), from(0, 3));
        lived("Promise 38", "8 the number of the latest FINDING (0 before any). BAD.", "count", from(0, 8));
        bounds(Houses::empty, Plain::new, "count", from(0, 8));
        bounds(Houses::full, Houses::fullPlain, "count", from(0, 8));
    }

    // In the lived house sheet s has the form s and 6 - s items, and sheet 3 is LOST.
    private static long noItem(int[] with) {
        if (!isIn(with[0], 0, 3) || !isIn(with[1], 0, 2)) {
            return SmallFirst.BAD;
        }
        if (with[0] == 3) {
            return Check.NULL;
        }
        if (with[1] != with[0]) {
            return Check.CAST;
        }
        return isIn(with[2], 0, 5 - with[0]) ? TAKEN : Check.INDEX;
    }

    private static void items() {
        CHECK.sentence("Promise 34", "Item i, treated as of a FORM, becomes v (the lowest bits that it has): 1. BAD; NULL; CAST; INDEX.");
        bounds(Houses::lived, Houses::livedPlain, "put", BoundsTest::noItem, from(0, 3), from(0, 2), from(0, 5), ANY);
        bounds(Houses::lived, Houses::livedPlain, "put", BoundsTest::noItem, from(1, 2), from(1, 2), from(3, 4), ANY);
        CHECK.sentence("Promise 35", "Item i of it. BAD: the least int; so are NULL, CAST, INDEX (count() 8 tells).");
        ToLongFunction<int[]> least = with -> noItem(with) == TAKEN ? TAKEN : Check.LEAST;
        bounds(Houses::lived, Houses::livedPlain, "get", least, from(0, 3), from(0, 2), from(0, 5));
        bounds(Houses::lived, Houses::livedPlain, "get", least, from(1, 2), from(1, 2), from(3, 4));
    }

    private static long noCopy(int[] with) {
        if (!isIn(with[0], 0, 3) || !isIn(with[2], 0, 3)) {
            return SmallFirst.BAD;
        }
        if (with[0] == 3 || with[2] == 3) {
            return Check.NULL;
        }
        if (with[0] != with[2]) {
            return Check.STORE;
        }
        long items = 6 - with[0];
        boolean belowZero = with[1] < 0 || with[3] < 0 || with[4] < 0;
        boolean tooMany = (long) with[1] + with[4] > items || (long) with[3] + with[4] > items;
        return belowZero || tooMany ? Check.INDEX : TAKEN;
    }

    private static void copies() {
        CHECK.sentence("Promise 36", "BAD: the SHEETS; NULL: s, t; STORE; INDEX: below 0, not so many.");
        bounds(Houses::lived, Houses::livedPlain, "copy", BoundsTest::noCopy,
            from(0, 3), from(0, 5), from(0, 3), from(0, 5), from(0, 6));
    }
}
