import java.util.HashMap;
import java.util.List;
import java.util.Map;
import java.util.Set;
import java.util.function.Supplier;

/**
 * Each refused call: its answer, the order in which refusals come, and that it changes nothing (a FINDING
 * nothing but count() 8). Then: a call that asks changes nothing, and one that changes something only that.
 */
public final class RefusalsTest {
    private static final Check CHECK = new Check("RefusalsTest");
    private static final long BAD = SmallFirst.BAD, NOT = SmallFirst.NOT, FULL = SmallFirst.FULL;
    private static final Supplier<SmallFirst> NEW = Houses::empty, LIVED = Houses::lived, MOST = Houses::full;
    private static final Map<Supplier<SmallFirst>, List<List<Long>>> BEFORE = new HashMap<>();

    public static void main(String[] args) {
        numbers();
        texts();
        notAndFull();
        things();
        layingsAndWeeks();
        plans();
        seen();
        chances();
        sheets();
        items();
        copies();
        order();
        asLong();
        askingChangesNothing();
        faultyTextsAreKept();
        changesOnlyThat();
        CHECK.end();
    }

    // ---- how a call is looked at

    private static List<List<Long>> before(Supplier<SmallFirst> made) {
        return BEFORE.computeIfAbsent(made, State::of);
    }

    private static Supplier<SmallFirst> with(Supplier<SmallFirst> made, String call) {
        return () -> {
            SmallFirst x = made.get();
            Calls.ask(x, call);
            return x;
        };
    }

    private static void refused(Supplier<SmallFirst> made, long answer, String... calls) {
        boolean isFinding = answer <= Check.NULL && answer >= Check.SIZE;
        found(made, answer, isFinding ? -10 - answer : before(made).get(State.FINDING).get(0), calls);
    }

    private static void found(Supplier<SmallFirst> made, long answer, long finding, String... calls) {
        for (String call : calls) {
            CHECK.due(call, Calls.ask(made.get(), call), answer);
            List<List<Long>> behind = State.of(with(made, call));
            CHECK.due(call + ", then count(8)", behind.get(State.FINDING).get(0), finding);
            for (int part = 1; part < State.PARTS; part++) {
                CHECK.holds(call + " is refused and changes nothing of part " + part,
                    behind.get(part).equals(before(made).get(part)));
            }
        }
    }

    private static void keeps(Supplier<SmallFirst> made, String... calls) {
        for (String call : calls) {
            CHECK.holds(call + " changes nothing", State.of(with(made, call)).equals(before(made)));
        }
    }

    private static void changes(Supplier<SmallFirst> made, String call, int changed) {
        List<List<Long>> behind = State.of(with(made, call));
        Set<Integer> may = changed >= State.SHEET ? Set.of(changed) : Set.of(changed, State.DIGEST);
        for (int part = 0; part < State.PARTS; part++) {
            if (!may.contains(part)) {
                CHECK.holds(call + " keeps part " + part, behind.get(part).equals(before(made).get(part)));
            }
        }
        CHECK.holds(call + " changes part " + changed, !behind.get(changed).equals(before(made).get(changed)));
    }

    // ---- BAD, NOT and FULL

    private static void numbers() {
        CHECK.sentence("The public face", "public static final int NONE = -1, BAD = -2, NOT = -3, FULL = -4;");
        CHECK.due("NONE", SmallFirst.NONE, -1);
        CHECK.due("BAD", SmallFirst.BAD, -2);
        CHECK.due("NOT", SmallFirst.NOT, -3);
        CHECK.due("FULL", SmallFirst.FULL, -4);
        CHECK.sentence("Parts", "They change nothing (FINDINGS but count() 8).");
        refused(LIVED, -2, "type(2, 0)");
        refused(NEW, -3, "undo(0)");
        refused(MOST, -4, "seen(0, 0)");
        refused(LIVED, -11, "read(3)");
        refused(LIVED, -12, "put(0, 0, 6, 1)");
        refused(LIVED, -13, "put(0, 1, 0, 1)");
        refused(LIVED, -14, "copy(0, 0, 2, 0, 1)");
        refused(LIVED, -15, "sheet(0, 0, -1)");
    }

    private static void texts() {
        CHECK.sentence("Promise 2", "A byte (0 to 255) comes behind a text: how many. BAD; FULL.");
        refused(NEW, BAD, "type(-1, 97)", "type(2, 97)", "type(0, -1)", "type(1, 256)", "type(2, 256)");
        refused(LIVED, BAD, "type(-1, 59)", "type(2, 59)", "type(LEAST, 59)", "type(MOST, 59)", "type(0, -1)",
            "type(0, 256)", "type(0, 315)", "type(0, -197)", "type(0, LEAST)", "type(0, MOST)", "type(1, -1)",
            "type(1, 256)", "type(1, 315)", "type(-1, -1)");
        CHECK.sentence("Promise 3", "A text is empty: how many bytes it had. BAD.");
        refused(LIVED, BAD, "wipe(-1)", "wipe(2)", "wipe(LEAST)", "wipe(MOST)");
        CHECK.sentence("Promise 4", "The last byte of a text is undone: how many are left. BAD; NOT: it is empty.");
        refused(LIVED, BAD, "undo(-1)", "undo(2)", "undo(LEAST)", "undo(MOST)");
        refused(NEW, BAD, "undo(-1)", "undo(2)");
        CHECK.sentence("Promise 5", "The FAULT of a text; NONE. BAD.");
        refused(LIVED, BAD, "fault(-1)", "fault(2)", "fault(LEAST)", "fault(MOST)");
        CHECK.sentence("Promise 6", "its BIG one (2). BAD.");
        refused(NEW, BAD, "rule(0, 0)", "rule(0, 1)", "rule(0, 2)", "rule(-1, 0)");
        refused(LIVED, BAD, "rule(-1, 0)", "rule(6, 0)", "rule(LEAST, 0)", "rule(MOST, 0)", "rule(0, -1)",
            "rule(5, 3)", "rule(0, LEAST)", "rule(0, MOST)");
        refused(MOST, BAD, "rule(16, 0)", "rule(-1, 2)", "rule(15, 3)", "rule(15, -1)");
        CHECK.sentence("Promise 7", "its SMALL one (1). BAD.");
        refused(NEW, BAD, "dust(0, 0)", "dust(0, 1)", "dust(-1, 0)");
        refused(LIVED, BAD, "dust(-1, 0)", "dust(5, 0)", "dust(LEAST, 0)", "dust(MOST, 0)", "dust(0, -1)",
            "dust(4, 2)", "dust(0, LEAST)", "dust(0, MOST)");
        refused(MOST, BAD, "dust(12, 0)", "dust(-1, 1)", "dust(11, 2)", "dust(11, -1)");
        CHECK.sentence("Promise 8", "FIRST: what it was. BAD (bits 0 to 255).");
        refused(LIVED, BAD, "first(-1)", "first(256)", "first(LEAST)", "first(MOST)");
    }

    private static void notAndFull() {
        CHECK.sentence("Promise 4", "NOT: it is empty.");
        refused(NEW, NOT, "undo(0)", "undo(1)");
        refused(with(LIVED, "wipe(0)"), NOT, "undo(0)");
        refused(with(LIVED, "wipe(1)"), NOT, "undo(1)");
        CHECK.sentence("Promise 12", "NOT: there is none.");
        refused(NEW, NOT, "back()");
        Supplier<SmallFirst> undone = with(with(with(LIVED, "back()"), "back()"), "back()");
        refused(undone, NOT, "back()");
        CHECK.sentence("Promise 2", "BAD; FULL.");
        refused(MOST, FULL, "type(0, 97)", "type(0, 0)", "type(0, 255)", "type(1, 65)", "type(1, 0)", "type(1, 255)");
        CHECK.sentence("Promise 11", "A LAYING more: how many. BAD; FULL.");
        refused(MOST, FULL, "lay(0, 0, 0)", "lay(29, 7, 1)", "lay(0, 0, 1)");
        CHECK.sentence("Promise 23", "SEEN more: how many. BAD; FULL.");
        refused(MOST, FULL, "seen(0, 0)", "seen(255, 255)", "seen(1, 1)");
    }

    private static void things() {
        CHECK.sentence("Promise 9", "COMES, as bits. BAD (bits 0 to 255).");
        refused(LIVED, BAD, "comes(-1)", "comes(256)", "comes(LEAST)", "comes(MOST)");
        CHECK.sentence("Promise 10", "LAYS, as bits. BAD (bits 0 to 255).");
        refused(LIVED, BAD, "lays(-1)", "lays(256)", "lays(LEAST)", "lays(MOST)");
        CHECK.sentence("Promise 16", "SECOND, as bits. BAD (bits 0 to 255).");
        refused(LIVED, BAD, "second(-1)", "second(256)", "second(LEAST)", "second(MOST)");
        CHECK.sentence("Promise 28", "MOVED, as bits. BAD (bits 0 to 255).");
        refused(LIVED, BAD, "moved(-1)", "moved(256)", "moved(LEAST)", "moved(MOST)");
        CHECK.sentence("Promise 38", "8 the number of the latest FINDING (0 before any). BAD.");
        refused(LIVED, BAD, "count(-1)", "count(9)", "count(LEAST)", "count(MOST)");
        refused(NEW, BAD, "count(-1)", "count(9)");
    }

    private static void layingsAndWeeks() {
        CHECK.sentence("Promise 11", "A LAYING more: how many. BAD; FULL.");
        refused(LIVED, BAD, "lay(-1, 0, 1)", "lay(30, 0, 1)", "lay(LEAST, 0, 1)", "lay(MOST, 0, 1)", "lay(0, -1, 1)",
            "lay(0, 8, 1)", "lay(0, LEAST, 1)", "lay(0, MOST, 1)", "lay(0, 0, -1)", "lay(0, 0, 2)", "lay(0, 0, LEAST)",
            "lay(0, 0, MOST)", "lay(0, 32, 1)", "lay(30, 8, 2)");
        CHECK.sentence("Promise 13", "BIG ones that came (1), as bits. BAD.");
        refused(LIVED, BAD, "week(-1, 0)", "week(30, 0)", "week(30, 1)", "week(LEAST, 0)", "week(MOST, 0)",
            "week(0, -1)", "week(29, 2)", "week(0, LEAST)", "week(0, MOST)");
    }

    private static void plans() {
        CHECK.sentence("Promise 17", "BAD: also a thing that is told as both.");
        refused(LIVED, BAD, "touch(0, 1, 2, 0)", "touch(10, 1, 2, 0)", "touch(LEAST, 1, 2, 0)", "touch(MOST, 1, 2, 0)",
            "touch(1, -1, 0, 0)", "touch(1, 256, 0, 0)", "touch(1, LEAST, 0, 0)", "touch(1, MOST, 0, 0)",
            "touch(1, 0, -1, 0)", "touch(1, 0, 256, 0)", "touch(1, 0, LEAST, 0)", "touch(1, 0, MOST, 0)",
            "touch(1, 1, 2, -1)", "touch(1, 1, 2, 2)", "touch(1, 1, 2, LEAST)", "touch(1, 1, 2, MOST)",
            "touch(1, 1, 1, 0)", "touch(1, 128, 255, 1)", "touch(9, 255, 128, 0)", "touch(1, 255, 255, 0)");
        CHECK.sentence("Promise 18", "KEEP OFF: how many (what = 0), as bits (1); NONE. BAD.");
        refused(LIVED, BAD, "keepOff(0, 0, 0)", "keepOff(10, 0, 0)", "keepOff(LEAST, 0, 0)", "keepOff(MOST, 0, 0)",
            "keepOff(1, -1, 0)", "keepOff(1, 8, 0)", "keepOff(1, LEAST, 0)", "keepOff(1, MOST, 0)", "keepOff(1, 32, 0)",
            "keepOff(1, 0, -1)", "keepOff(1, 0, 2)", "keepOff(1, 0, LEAST)", "keepOff(1, 0, MOST)");
        CHECK.sentence("Promise 19", "BARS. BAD.");
        refused(LIVED, BAD, "bars(-1)", "bars(8)", "bars(32)", "bars(LEAST)", "bars(MOST)");
        CHECK.sentence("Promise 20", "what the first one touches (1; NONE). BAD.");
        refused(LIVED, BAD, "play(-1, 0, 0)", "play(5, 0, 0)", "play(LEAST, 0, 0)", "play(MOST, 0, 0)", "play(1, -1, 0)",
            "play(1, 8, 0)", "play(1, 32, 0)", "play(1, LEAST, 0)", "play(1, MOST, 0)", "play(1, 0, -1)", "play(1, 0, 2)",
            "play(1, 0, LEAST)", "play(1, 0, MOST)");
        CHECK.sentence("Promise 21", "STEADY: how many (i = NONE), the i-th (0 to 255; NONE). BAD.");
        refused(LIVED, BAD, "steady(-2)", "steady(256)", "steady(LEAST)", "steady(MOST)");
        CHECK.sentence("Promise 22", "ROUND: behind how many weeks (what = 0), how many it is (1). BAD.");
        refused(LIVED, BAD, "round(-1, 0)", "round(256, 0)", "round(LEAST, 0)", "round(MOST, 1)", "round(0, -1)",
            "round(255, 2)", "round(0, LEAST)", "round(0, MOST)");
    }

    private static void seen() {
        CHECK.sentence("Promise 23", "SEEN more: how many. BAD; FULL.");
        refused(LIVED, BAD, "seen(-1, 0)", "seen(256, 0)", "seen(LEAST, 0)", "seen(MOST, 0)", "seen(0, -1)", "seen(0, 256)",
            "seen(0, LEAST)", "seen(0, MOST)", "seen(-1, 256)");
        CHECK.sentence("Promise 25", "as long as each may be: how many. BAD; NULL.");
        refused(LIVED, BAD, "read(-1)", "read(4)", "read(LEAST)", "read(MOST)");
        refused(NEW, BAD, "read(-1)", "read(4)");
        refused(NEW, Check.NULL, "read(0)", "read(1)", "read(2)", "read(3)");
        refused(LIVED, Check.NULL, "read(3)");
        CHECK.sentence("Promise 26", "STANDS: in how many (what = 0), the set with the fewest (1; NONE). BAD.");
        refused(LIVED, BAD, "stands(-1, 0)", "stands(8, 0)", "stands(32, 0)", "stands(LEAST, 0)", "stands(MOST, 0)",
            "stands(0, -1)", "stands(7, 2)", "stands(0, LEAST)", "stands(0, MOST)");
        CHECK.sentence("Promise 27", "WATCH; NONE. BAD.");
        refused(LIVED, BAD, "watch(-1)", "watch(8)", "watch(32)", "watch(LEAST)", "watch(MOST)");
    }

    private static void chances() {
        CHECK.sentence("Promise 30", "LET. BAD.");
        refused(LIVED, BAD, "let(-1, 0)", "let(17, 0)", "let(LEAST, 0)", "let(MOST, 0)", "let(8, -1)", "let(8, 8)",
            "let(8, 32)", "let(8, LEAST)", "let(8, MOST)");
        CHECK.sentence("Promise 31", "LOT: SMALL things (big = NONE), how many weeks a BIG one came. BAD.");
        refused(LIVED, BAD, "lot(7, -1, 0)", "lot(7, 100, 0)", "lot(7, LEAST, 0)", "lot(7, MOST, 0)", "lot(7, 1, -2)",
            "lot(7, 1, 8)", "lot(7, 1, 32)", "lot(7, 1, LEAST)", "lot(7, 1, MOST)", "lot(7, 0, -2)", "lot(7, 0, 8)");
    }

    private static void asLong() {
        CHECK.sentence("Parts", "Where the answer is a long, a refusal -x is the least long and x more.");
        refused(LIVED, Long.MIN_VALUE + 2, "cat(-1, 0, 0)", "cat(17, 0, 0)", "cat(LEAST, 0, 0)", "cat(MOST, 0, 0)",
            "cat(8, -1, 0)", "cat(8, 8, 0)", "cat(8, 32, 0)", "cat(8, LEAST, 0)", "cat(8, MOST, 0)", "cat(8, 0, -1)",
            "cat(8, 0, 2)", "cat(8, 0, LEAST)", "cat(8, 0, MOST)", "cat(17, 8, 2)");
        refused(NEW, Long.MIN_VALUE + 2, "cat(-1, 0, 0)", "cat(0, 8, 0)", "cat(0, 0, 2)");
    }

    // ---- sheets

    private static void sheets() {
        CHECK.sentence("Promise 32", "BAD: SHEET, FORM, above 60; SIZE.");
        refused(LIVED, BAD, "sheet(-1, 0, 1)", "sheet(4, 0, 1)", "sheet(LEAST, 0, 1)", "sheet(MOST, 0, 1)",
            "sheet(0, -1, 1)", "sheet(0, 3, 1)", "sheet(0, LEAST, 1)", "sheet(0, MOST, 1)", "sheet(0, 0, 61)",
            "sheet(3, 2, 61)", "sheet(3, 2, MOST)", "sheet(4, 3, 61)");
        refused(LIVED, Check.SIZE, "sheet(0, 0, -1)", "sheet(0, 1, -1)", "sheet(3, 2, -1)", "sheet(2, 2, LEAST)");
        refused(NEW, BAD, "sheet(4, 0, 1)", "sheet(0, 3, 1)", "sheet(0, 0, 61)");
        refused(NEW, Check.SIZE, "sheet(0, 0, -1)", "sheet(3, 2, LEAST)");
        CHECK.sentence("Promise 33", "It is LOST: how many items it had. BAD; NULL.");
        refused(LIVED, BAD, "lose(-1)", "lose(4)", "lose(LEAST)", "lose(MOST)");
        refused(LIVED, Check.NULL, "lose(3)");
        refused(NEW, Check.NULL, "lose(0)", "lose(1)", "lose(2)", "lose(3)");
        CHECK.sentence("Promise 37", "as many as there are items, 30 at most: how many. BAD; NULL.");
        refused(LIVED, BAD, "write(-1, 0)", "write(2, 0)", "write(LEAST, 0)", "write(MOST, 0)", "write(0, -1)",
            "write(1, 4)", "write(0, LEAST)", "write(0, MOST)");
        refused(LIVED, Check.NULL, "write(0, 3)", "write(1, 3)");
        refused(NEW, Check.NULL, "write(0, 0)", "write(1, 3)");
    }

    private static void items() {
        CHECK.sentence("Promise 34", "becomes v (the lowest bits that it has): 1. BAD; NULL; CAST; INDEX.");
        refused(LIVED, BAD, "put(-1, 0, 0, 9)", "put(4, 0, 0, 9)", "put(LEAST, 0, 0, 9)", "put(MOST, 0, 0, 9)",
            "put(0, -1, 0, 9)", "put(0, 3, 0, 9)", "put(0, LEAST, 0, 9)", "put(0, MOST, 0, 9)");
        refused(LIVED, Check.NULL, "put(3, 0, 0, 9)", "put(3, 1, 0, 9)", "put(3, 2, 0, 9)");
        refused(LIVED, Check.CAST, "put(0, 1, 0, 9)", "put(0, 2, 0, 9)", "put(1, 0, 0, 9)", "put(1, 2, 0, 9)",
            "put(2, 0, 0, 9)", "put(2, 1, 0, 9)");
        refused(LIVED, Check.INDEX, "put(0, 0, -1, 9)", "put(0, 0, 6, 9)", "put(1, 1, 5, 9)", "put(2, 2, 4, 9)",
            "put(2, 2, LEAST, 9)", "put(2, 2, MOST, 9)");
        refused(MOST, Check.INDEX, "put(0, 0, -1, 9)", "put(0, 0, 60, 9)", "put(3, 0, 60, 9)");
        refused(with(NEW, "sheet(2, 1, 0)"), Check.INDEX, "put(2, 1, 0, 9)", "put(2, 1, -1, 9)");
        CHECK.sentence("Promise 35", "BAD: the least int; so are NULL, CAST, INDEX (count() 8 tells).");
        refused(LIVED, Check.LEAST, "get(-1, 0, 0)", "get(4, 0, 0)", "get(LEAST, 0, 0)", "get(MOST, 0, 0)", "get(0, -1, 0)",
            "get(0, 3, 0)", "get(0, LEAST, 0)", "get(0, MOST, 0)");
        found(LIVED, Check.LEAST, 1, "get(3, 0, 0)", "get(3, 1, 0)", "get(3, 2, 0)");
        found(LIVED, Check.LEAST, 3, "get(0, 1, 0)", "get(0, 2, 0)", "get(1, 0, 0)", "get(1, 2, 0)", "get(2, 0, 0)",
            "get(2, 1, 0)");
        found(LIVED, Check.LEAST, 2, "get(0, 0, -1)", "get(0, 0, 6)", "get(1, 1, 5)", "get(2, 2, 4)", "get(2, 2, LEAST)",
            "get(2, 2, MOST)");
        found(MOST, Check.LEAST, 2, "get(0, 0, -1)", "get(0, 0, 60)", "get(3, 0, 60)");
        found(with(NEW, "sheet(2, 1, 0)"), Check.LEAST, 2, "get(2, 1, 0)", "get(2, 1, -1)");
    }

    private static void copies() {
        CHECK.sentence("Promise 36", "BAD: the SHEETS; NULL: s, t; STORE; INDEX: below 0, not so many.");
        refused(LIVED, BAD, "copy(-1, 0, 0, 0, 1)", "copy(4, 0, 0, 0, 1)", "copy(LEAST, 0, 0, 0, 1)",
            "copy(MOST, 0, 0, 0, 1)", "copy(0, 0, -1, 0, 1)", "copy(0, 0, 4, 0, 1)", "copy(0, 0, LEAST, 0, 1)",
            "copy(0, 0, MOST, 0, 1)", "copy(4, 0, 4, 0, 1)");
        refused(LIVED, Check.NULL, "copy(3, 0, 0, 0, 1)", "copy(0, 0, 3, 0, 1)", "copy(3, 0, 3, 0, 1)", "copy(3, 0, 3, 0, 0)");
        refused(LIVED, Check.STORE, "copy(0, 0, 1, 0, 1)", "copy(1, 0, 0, 0, 1)", "copy(0, 0, 2, 0, 1)",
            "copy(2, 0, 1, 0, 1)", "copy(0, 0, 1, 0, 0)");
        refused(LIVED, Check.INDEX, "copy(0, -1, 0, 0, 1)", "copy(0, 0, 0, -1, 1)", "copy(0, 0, 0, 0, -1)",
            "copy(0, 0, 0, 0, 7)", "copy(0, 1, 0, 0, 6)", "copy(0, 0, 0, 1, 6)", "copy(0, 6, 0, 0, 1)",
            "copy(0, 0, 0, 6, 1)", "copy(0, 7, 0, 0, 0)", "copy(0, 0, 0, 7, 0)", "copy(0, 0, 0, 0, LEAST)",
            "copy(0, 0, 0, 0, MOST)", "copy(0, MOST, 0, 0, 1)", "copy(0, 0, 0, MOST, 1)", "copy(0, LEAST, 0, 0, 1)",
            "copy(0, 0, 0, LEAST, 1)", "copy(0, 1, 0, 1, MOST)", "copy(0, MOST, 0, MOST, MOST)", "copy(0, 6, 0, 6, -1)",
            "copy(0, LEAST, 0, 0, LEAST)", "copy(0, 1, 0, 0, LEAST)");
        Supplier<SmallFirst> twoBytes = with(LIVED, "sheet(3, 0, 3)");
        refused(twoBytes, Check.INDEX, "copy(0, 0, 3, 0, 4)", "copy(3, 0, 0, 0, 4)", "copy(0, 5, 3, 0, 2)",
            "copy(0, 0, 3, 2, 2)", "copy(0, 7, 3, 0, 0)", "copy(0, 0, 3, 4, 0)");
    }

    // Where two refusals fit, the first of BAD, NULL, NOT, FULL, other FINDINGS; among these as told at the act.
    private static void order() {
        CHECK.sentence("Parts", "Refusals, the first that fits, in the order told at each act:");
        refused(MOST, BAD, "type(0, 256)", "type(1, -1)", "type(2, 97)", "type(-1, 97)");
        refused(MOST, BAD, "lay(30, 0, 0)", "lay(0, 8, 0)", "lay(0, 0, 2)", "lay(-1, 0, 0)");
        refused(MOST, BAD, "seen(256, 0)", "seen(0, 256)", "seen(-1, 0)", "seen(0, -1)");
        refused(NEW, BAD, "undo(2)", "undo(-1)");
        refused(LIVED, BAD, "sheet(4, 0, -1)", "sheet(-1, 0, -1)", "sheet(0, 3, -1)", "sheet(0, -1, LEAST)");
        refused(NEW, BAD, "put(0, 3, 0, 9)", "put(0, -1, 0, 9)", "put(4, 0, 0, 9)", "put(4, 3, -1, 9)");
        refused(NEW, Check.LEAST, "get(0, 3, 0)", "get(0, -1, 0)", "get(4, 0, 0)", "get(4, 3, -1)");
        refused(NEW, BAD, "copy(0, 0, 4, 0, 1)", "copy(4, 0, 0, 0, 1)", "copy(0, -1, 4, 0, 1)", "write(2, 0)");
        refused(LIVED, BAD, "copy(4, 0, 0, -1, -1)", "copy(0, -1, 4, 0, 1)", "copy(4, 0, 1, 0, 1)", "write(2, 3)");
        refused(LIVED, BAD, "put(0, 3, 99, 9)", "put(-1, 1, -1, 9)");
        refused(NEW, Check.NULL, "put(0, 0, -1, 9)", "put(0, 0, 99, 9)", "copy(0, -1, 1, 0, -1)", "copy(0, 0, 0, 0, 99)");
        refused(LIVED, Check.NULL, "copy(3, -1, 0, 0, 1)", "copy(0, 0, 3, 99, 1)", "copy(1, 0, 3, 0, 1)",
            "copy(3, 0, 1, 0, -1)", "put(3, 1, -1, 9)", "put(3, 2, 60, 9)");
        refused(LIVED, Check.CAST, "put(0, 1, -1, 9)", "put(0, 1, 6, 9)", "put(2, 0, 60, 9)", "put(1, 2, LEAST, 9)");
        refused(LIVED, Check.STORE, "copy(0, -1, 1, 0, 1)", "copy(0, 0, 1, -1, 1)", "copy(0, 0, 1, 0, -1)",
            "copy(0, 9, 1, 0, 1)", "copy(0, 0, 1, 0, 60)", "copy(0, 0, 1, 0, LEAST)");
        found(NEW, Check.LEAST, 1, "get(0, 0, -1)", "get(0, 0, 99)");
        found(LIVED, Check.LEAST, 1, "get(3, 1, -1)", "get(3, 2, 60)");
        found(LIVED, Check.LEAST, 3, "get(0, 1, -1)", "get(0, 1, 6)", "get(2, 0, 60)", "get(1, 2, LEAST)");
    }

    // ---- what is taken

    private static void askingChangesNothing() {
        CHECK.sentence("Not promised", "Nothing is promised beyond the answers and state changes described above");
        String[] asking = {"fault(0)", "fault(1)", "comes(255)", "comes(0)", "lays(255)", "week(29, 0)", "week(0, 1)",
            "judged()", "two()", "second(255)", "touch(1, 1, 2, 0)", "touch(9, 255, 0, 1)", "keepOff(9, 0, 1)",
            "keepOff(1, 7, 0)", "bars(0)", "play(4, 0, 0)", "play(3, 1, 1)", "play(0, 7, 1)", "steady(-1)", "steady(0)",
            "steady(255)", "round(255, 0)", "round(5, 1)", "stands(0, 0)", "stands(7, 1)", "watch(0)", "moved(1)",
            "cat(16, 0, 0)", "cat(3, 7, 1)", "let(16, 0)", "lot(7, 99, -1)", "lot(-1, 99, 0)", "lot(0, 0, -1)",
            "count(0)", "count(8)", "digest()"};
        keeps(LIVED, asking);
        keeps(MOST, asking);
        keeps(NEW, asking);
        keeps(LIVED, "rule(0, 0)", "rule(5, 2)", "dust(0, 0)", "dust(4, 1)", "get(0, 0, 0)", "get(2, 2, 3)");
        keeps(MOST, "rule(15, 1)", "dust(11, 1)", "get(0, 0, 59)");
        CHECK.sentence("Promise 36", "from j on: 1.");
        keeps(LIVED, "copy(0, 0, 0, 0, 0)", "copy(0, 6, 0, 6, 0)", "copy(0, 0, 0, 0, 6)", "copy(2, 4, 2, 0, 0)");
        CHECK.sentence("Promise 37", "as many as there are items, 30 at most: how many.");
        keeps(with(NEW, "sheet(1, 1, 0)"), "write(0, 1)", "write(1, 1)", "read(1)");
        CHECK.sentence("Promise 25", "as many as are whole");
        keeps(with(LIVED, "sheet(3, 2, 1)"), "read(3)");
        keeps(MOST, "read(0)", "read(3)");
        CHECK.sentence("Promise 24", "All SEEN are forgotten: how many.");
        keeps(NEW, "forget()", "wipe(0)", "wipe(1)", "first(0)");
    }

    // As if it was empty, yet it keeps its bytes: refusals do not mend or cut it.
    private static void faultyTextsAreKept() {
        CHECK.sentence("Terms", "With a FAULT a text is as if it was empty.");
        Supplier<SmallFirst> faulty = with(with(LIVED, "type(0, 59)"), "type(1, 59)");
        refused(faulty, BAD, "type(0, 256)", "type(1, 256)", "wipe(2)", "undo(2)", "rule(0, 0)", "dust(0, 0)");
        keeps(faulty, "fault(0)", "fault(1)", "comes(255)", "lays(255)", "digest()", "week(29, 1)");
    }

    private static void changesOnlyThat() {
        CHECK.sentence("Not promised", "Nothing is promised beyond the answers and state changes described above");
        for (Supplier<SmallFirst> made : List.of(LIVED, MOST)) {
            for (String call : List.of("undo(0)", "wipe(0)")) {
                changes(made, call, State.LAWS);
            }
            for (String call : List.of("undo(1)", "wipe(1)")) {
                changes(made, call, State.DUST);
            }
            changes(made, "first(1)", State.FIRST);
            changes(made, "first(0)", State.FIRST);
            changes(made, "back()", State.LAYINGS);
            changes(made, "forget()", State.SEEN);
            for (int s = 0; s < 3; s++) {
                changes(made, "sheet(" + s + ", 0, 0)", State.SHEET + s);
                changes(made, "lose(" + s + ")", State.SHEET + s);
                changes(made, "put(" + s + ", " + s + ", 1, 77)", State.SHEET + s);
                changes(made, "copy(" + s + ", 0, " + s + ", 2, 1)", State.SHEET + s);
                changes(made, "write(0, " + s + ")", State.SHEET + s);
                changes(made, "write(1, " + s + ")", State.SHEET + s);
            }
        }
        changes(LIVED, "type(0, 59)", State.LAWS);
        changes(LIVED, "type(0, 255)", State.LAWS);
        changes(LIVED, "type(1, 59)", State.DUST);
        changes(LIVED, "type(1, 0)", State.DUST);
        changes(LIVED, "lay(0, 0, 0)", State.LAYINGS);
        changes(LIVED, "lay(28, 6, 1)", State.LAYINGS);
        changes(LIVED, "seen(2, 0)", State.SEEN);
        changes(LIVED, "read(0)", State.SEEN);
        changes(LIVED, "sheet(3, 1, 60)", State.SHEET + 3);
        changes(with(LIVED, "sheet(3, 2, 9)"), "copy(2, 0, 3, 5, 4)", State.SHEET + 3);
    }
}
