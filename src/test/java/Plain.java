import java.math.BigInteger;
import java.util.ArrayList;
import java.util.List;
import java.util.Set;
import java.util.TreeSet;
import java.util.function.IntPredicate;
import java.util.regex.Matcher;
import java.util.regex.Pattern;
import java.util.stream.IntStream;

/**
 * A second, slow reading of the document, written with the Java library and by other means than
 * SmallFirst (patterns, sets of letters, rows that the machine itself guards), to compare with.
 */
public final class Plain {
    private static final String SMALLS = "(?:a[b-h]?|b[c-h]?|c[d-h]?|d[e-h]?|e[f-h]?|f[gh]?|gh?|h)";
    private static final String LAW = SMALLS + "[+-][A-H]";
    private static final String DUST = "[A-H][a-h]";
    private static final Pattern[] GOES_ON = {
        Pattern.compile("(?:" + LAW + "(?:;" + LAW + "){0,15};?)?", Pattern.DOTALL),
        Pattern.compile("(?:" + DUST + "(?:;" + DUST + "){0,11};?)?", Pattern.DOTALL)};
    private static final int[] MOST_BYTES = {79, 35};

    private record Laying(int week, char small, boolean is) {
    }

    private record Sight(Set<Character> small, Set<Character> big) {
    }

    private final StringBuilder[] texts = {new StringBuilder(), new StringBuilder()};
    private final String[] readTexts = {"", ""};
    private final List<List<String>> readParts = new ArrayList<>(List.of(List.of(), List.of()));
    private final List<Laying> layings = new ArrayList<>();
    private final List<Sight> sights = new ArrayList<>();
    private final Object[] sheets = new Object[4];
    private Set<Character> first = new TreeSet<>();
    private int finding = 0;

    // ---- sets of letters

    private static Set<Character> set(int bits, char from) {
        Set<Character> letters = new TreeSet<>();
        for (int i = 0; i < 8; i++) {
            if (BigInteger.valueOf(bits).testBit(i)) {
                letters.add((char) (from + i));
            }
        }
        return letters;
    }

    private static Set<Character> small(int bits) {
        return set(bits, 'a');
    }

    private static Set<Character> big(int bits) {
        return set(bits, 'A');
    }

    private static int bits(Set<Character> letters) {
        return letters.stream().mapToInt(c -> 1 << (Character.toLowerCase(c) - 'a')).sum();
    }

    private static boolean in(int x, int from, int to) {
        return from <= x && x <= to;
    }

    private static char bigLetter(int thing) {
        return "ABCDEFGH".charAt(thing);
    }

    private static Set<Character> touched(Set<Character> set, char small) {
        Set<Character> other = new TreeSet<>(set);
        if (!other.remove(small)) {
            other.add(small);
        }
        return other;
    }

    private static Set<Character> touched(Set<Character> set, Set<Character> smalls) {
        Set<Character> other = set;
        for (char small : smalls) {
            other = touched(other, small);
        }
        return other;
    }

    /** Fewest first, of like ones the least bits first. */
    private static int fewest(IntPredicate may) {
        return IntStream.range(0, 256).filter(may).boxed()
            .min((x, y) -> Integer.bitCount(x) != Integer.bitCount(y)
                ? Integer.bitCount(x) - Integer.bitCount(y) : x - y)
            .orElse(-1);
    }

    // ---- laws

    public void typeAll(int text, String bytes) {
        texts[text].append(bytes);
    }

    public int type(int text, int b) {
        if (!in(text, 0, 1) || !in(b, 0, 255)) {
            return -2;
        }
        if (texts[text].length() == MOST_BYTES[text]) {
            return -4;
        }
        return texts[text].append((char) b).length();
    }

    public int wipe(int text) {
        if (!in(text, 0, 1)) {
            return -2;
        }
        int had = texts[text].length();
        texts[text].setLength(0);
        return had;
    }

    public int undo(int text) {
        if (!in(text, 0, 1)) {
            return -2;
        }
        if (texts[text].length() == 0) {
            return -3;
        }
        texts[text].setLength(texts[text].length() - 1);
        return texts[text].length();
    }

    public int fault(int text) {
        if (!in(text, 0, 1)) {
            return -2;
        }
        String whole = texts[text].toString();
        for (int n = 1; n <= whole.length(); n++) {
            Matcher matcher = GOES_ON[text].matcher(whole.substring(0, n));
            if (!matcher.matches() && !matcher.hitEnd()) {
                return n - 1;
            }
        }
        boolean ended = GOES_ON[text].matcher(whole).matches() && !whole.endsWith(";");
        return ended ? -1 : whole.length();
    }

    private List<String> parts(int text) {
        String whole = texts[text].toString();
        if (!whole.equals(readTexts[text])) {
            readTexts[text] = whole;
            boolean none = whole.isEmpty() || fault(text) != -1;
            readParts.set(text, none ? List.of() : List.of(whole.split(";")));
        }
        return readParts.get(text);
    }

    private static Set<Character> smallOf(String law) {
        Set<Character> letters = new TreeSet<>();
        for (char c : law.substring(0, law.length() - 2).toCharArray()) {
            letters.add(c);
        }
        return letters;
    }

    private static boolean isPlus(String law) {
        return law.indexOf('+') >= 0;
    }

    private static char bigOf(String law) {
        return law.charAt(law.length() - 1);
    }

    public int rule(int law, int what) {
        if (!in(law, 0, parts(0).size() - 1) || !in(what, 0, 2)) {
            return -2;
        }
        String told = parts(0).get(law);
        return what == 0 ? bits(smallOf(told)) : what == 1 ? (isPlus(told) ? 1 : 0) : bigOf(told) - 'A';
    }

    public int dust(int dust, int what) {
        if (!in(dust, 0, parts(1).size() - 1) || !in(what, 0, 1)) {
            return -2;
        }
        char letter = parts(1).get(dust).charAt(what);
        return Character.toLowerCase(letter) - 'a';
    }

    public int first(int small) {
        if (!in(small, 0, 255)) {
            return -2;
        }
        int was = bits(first);
        first = small(small);
        return was;
    }

    // ---- weeks

    private Set<Character> held(Set<Character> smalls, boolean plus) {
        Set<Character> bigs = new TreeSet<>();
        for (String law : parts(0)) {
            if (isPlus(law) == plus && smalls.containsAll(smallOf(law))) {
                bigs.add(bigOf(law));
            }
        }
        return bigs;
    }

    private Set<Character> comesOf(Set<Character> smalls) {
        Set<Character> bigs = held(smalls, true);
        bigs.removeAll(held(smalls, false));
        return bigs;
    }

    private Set<Character> laysOf(Set<Character> bigs) {
        Set<Character> smalls = new TreeSet<>();
        for (String dust : parts(1)) {
            if (bigs.contains(dust.charAt(0))) {
                smalls.add(dust.charAt(1));
            }
        }
        return smalls;
    }

    private Set<Character> next(Set<Character> smalls) {
        return laysOf(comesOf(smalls));
    }

    public int comes(int small) {
        return in(small, 0, 255) ? bits(comesOf(small(small))) : -2;
    }

    public int lays(int big) {
        return in(big, 0, 255) ? bits(laysOf(big(big))) : -2;
    }

    public int lay(int week, int small, int is) {
        if (!in(week, 0, 29) || !in(small, 0, 7) || !in(is, 0, 1)) {
            return -2;
        }
        if (layings.size() == 12) {
            return -4;
        }
        layings.add(new Laying(week, (char) ('a' + small), is == 1));
        return layings.size();
    }

    public int back() {
        if (layings.isEmpty()) {
            return -3;
        }
        layings.remove(layings.size() - 1);
        return layings.size();
    }

    private Set<Character> smallIn(int week) {
        Set<Character> smalls = week == 0 ? new TreeSet<>(first) : laysOf(bigIn(week));
        for (Laying laying : layings) {
            if (laying.week() == week && laying.is()) {
                smalls.add(laying.small());
            } else if (laying.week() == week) {
                smalls.remove(laying.small());
            }
        }
        return smalls;
    }

    private Set<Character> bigIn(int week) {
        return week == 0 ? new TreeSet<>() : comesOf(smallIn(week - 1));
    }

    public int week(int week, int what) {
        if (!in(week, 0, 29) || !in(what, 0, 1)) {
            return -2;
        }
        return bits(what == 0 ? smallIn(week) : bigIn(week));
    }

    public int judged() {
        for (int w = 0; w <= 29; w++) {
            Set<Character> both = held(smallIn(w), true);
            both.retainAll(held(smallIn(w), false));
            if (!both.isEmpty()) {
                return w;
            }
        }
        return -1;
    }

    public int two() {
        for (char c = 'a'; c <= 'h'; c++) {
            Set<Character> bigs = new TreeSet<>();
            for (String law : parts(0)) {
                if (isPlus(law) && law.indexOf(c) >= 0) {
                    bigs.add(bigOf(law));
                }
            }
            if (bigs.size() > 1) {
                return c - 'a';
            }
        }
        return -1;
    }

    public int second(int small) {
        return in(small, 0, 255) ? comes(comes(small)) : -2;
    }

    // ---- plans

    public int touch(int k, int come, int not, int what) {
        if (!in(k, 1, 9) || !in(come, 0, 255) || !in(not, 0, 255) || !in(what, 0, 1)) {
            return -2;
        }
        Set<Character> none = big(not);
        none.retainAll(big(come));
        if (!none.isEmpty()) {
            return -2;
        }
        int best = fewest(bits -> {
            Set<Character> smalls = touched(first, small(bits));
            Set<Character> bigs = Set.of();
            for (int w = 1; w <= k; w++) {
                bigs = comesOf(smalls);
                smalls = laysOf(bigs);
            }
            Set<Character> unwanted = big(not);
            unwanted.retainAll(bigs);
            return bigs.containsAll(big(come)) && unwanted.isEmpty();
        });
        return best == -1 || what == 1 ? best : small(best).size();
    }

    public int keepOff(int k, int big, int what) {
        if (!in(k, 1, 9) || !in(big, 0, 7) || !in(what, 0, 1)) {
            return -2;
        }
        int best = fewest(bits -> {
            Set<Character> smalls = new TreeSet<>(first);
            smalls.removeAll(small(bits));
            boolean off = true;
            for (int w = 1; w <= k; w++) {
                off &= !comesOf(smalls).contains(bigLetter(big));
                smalls = next(smalls);
            }
            return off;
        });
        return best == -1 || what == 1 ? best : small(best).size();
    }

    public int bars(int big) {
        if (!in(big, 0, 7)) {
            return -2;
        }
        return (int) IntStream.range(0, 256)
            .filter(b -> held(small(b), true).contains(bigLetter(big)))
            .filter(b -> !comesOf(small(b)).contains(bigLetter(big))).count();
    }

    // From the last turn on: by which sets it comes, for all 256 at once.
    private boolean[] won(int big, int turns, boolean firstIsNext) {
        boolean[] won = new boolean[256];
        for (int set = 0; set < 256; set++) {
            won[set] = comesOf(small(set)).contains(bigLetter(big));
        }
        for (int turn = turns; turn >= 1; turn--) {
            boolean firstMoves = (turn % 2 == 1) == firstIsNext;
            boolean[] ahead = new boolean[256];
            for (int set = 0; set < 256; set++) {
                int good = won[set] ? 1 : 0;
                for (int i = 0; i < 8; i++) {
                    good += won[set ^ 1 << i] ? 1 : 0;
                }
                ahead[set] = firstMoves ? good > 0 : good == 9;
            }
            won = ahead;
        }
        return won;
    }

    public int play(int n, int big, int what) {
        if (!in(n, 0, 4) || !in(big, 0, 7) || !in(what, 0, 1)) {
            return -2;
        }
        if (what == 0) {
            return won(big, n, true)[bits(first)] ? 1 : 0;
        }
        if (n == 0) {
            return -1;
        }
        boolean[] won = won(big, n - 1, false);
        if (won[bits(first)]) {
            return -1;
        }
        return IntStream.range(0, 8).filter(i -> won[bits(first) ^ 1 << i]).findFirst().orElse(-1);
    }

    public int steady(int i) {
        if (!in(i, -1, 255)) {
            return -2;
        }
        int[] all = IntStream.range(0, 256).filter(b -> bits(next(small(b))) == b).toArray();
        return i == -1 ? all.length : i < all.length ? all[i] : -1;
    }

    public int round(int small, int what) {
        if (!in(small, 0, 255) || !in(what, 0, 1)) {
            return -2;
        }
        List<Set<Character>> ahead = new ArrayList<>();
        Set<Character> now = small(small);
        while (!ahead.contains(now)) {
            ahead.add(now);
            now = next(now);
        }
        return what == 0 ? ahead.size() : ahead.size() - ahead.indexOf(now);
    }

    // ---- seen

    public int seen(int small, int big) {
        if (!in(small, 0, 255) || !in(big, 0, 255)) {
            return -2;
        }
        if (sights.size() == 8) {
            return -4;
        }
        sights.add(new Sight(small(small), big(big)));
        return sights.size();
    }

    public int forget() {
        int had = sights.size();
        sights.clear();
        return had;
    }

    public int read(int s) {
        if (!in(s, 0, 3)) {
            return -2;
        }
        if (sheets[s] == null) {
            return found(1);
        }
        int[] items = items(s);
        int n = 0;
        while (2 * n + 1 < items.length && seen(items[2 * n], items[2 * n + 1]) > 0) {
            n++;
        }
        return n;
    }

    private boolean mayStand(int set, int big) {
        return sights.stream().allMatch(sight ->
            sight.big().contains(bigLetter(big)) == small(set).stream().anyMatch(sight.small()::contains));
    }

    public int stands(int big, int what) {
        if (!in(big, 0, 7) || !in(what, 0, 1)) {
            return -2;
        }
        if (what == 1) {
            return fewest(set -> mayStand(set, big));
        }
        return (int) IntStream.range(0, 256).filter(set -> mayStand(set, big)).count();
    }

    public int watch(int big) {
        if (!in(big, 0, 7)) {
            return -2;
        }
        int[] sets = IntStream.range(0, 256).filter(set -> mayStand(set, big)).toArray();
        if (sets.length == 0) {
            return -1;
        }
        int best = 0;
        int nearest = Integer.MAX_VALUE;
        for (int i = 0; i < 8; i++) {
            char letter = (char) ('a' + i);
            int with = (int) IntStream.of(sets).filter(set -> small(set).contains(letter)).count();
            int far = Math.abs(with * 2 - sets.length);
            if (far < nearest) {
                nearest = far;
                best = i;
            }
        }
        return best;
    }

    public int moved(int big) {
        if (!in(big, 0, 255)) {
            return -2;
        }
        Set<Character> could = new TreeSet<>();
        for (char c = 'a'; c <= 'h'; c++) {
            if (comesOf(touched(first, c)).equals(big(big))) {
                could.add(c);
            }
        }
        return bits(could);
    }

    // Of 128 like chances: 16 times whether the cat is there, 8 times what it touches.
    private int chances(int p, int big) {
        int good = 0;
        for (int sixteenth = 0; sixteenth < 16; sixteenth++) {
            for (char c = 'a'; c <= 'h'; c++) {
                Set<Character> smalls = sixteenth < p ? touched(first, c) : first;
                good += comesOf(smalls).contains(bigLetter(big)) ? 1 : 0;
            }
        }
        return good;
    }

    public long cat(int p, int big, int what) {
        if (!in(p, 0, 16) || !in(big, 0, 7) || !in(what, 0, 1)) {
            return Long.MIN_VALUE + 2;
        }
        BigInteger above = BigInteger.valueOf(chances(p, big));
        BigInteger below = BigInteger.valueOf(128);
        return (what == 0 ? above : below).divide(above.gcd(below)).longValue();
    }

    public int let(int p, int big) {
        if (!in(p, 0, 16) || !in(big, 0, 7)) {
            return -2;
        }
        return chances(p, big) < chances(0, big) ? 1 : 0;
    }

    public int lot(int seed, int n, int big) {
        if (!in(n, 0, 99) || !in(big, -1, 7)) {
            return -2;
        }
        Set<Character> smalls = first;
        BigInteger now = BigInteger.valueOf(seed);
        int came = 0;
        for (int w = 0; w < n; w++) {
            now = now.multiply(BigInteger.valueOf(1103515245)).add(BigInteger.valueOf(12345))
                .mod(BigInteger.TWO.pow(32));
            int lot = now.shiftRight(16).mod(BigInteger.valueOf(8)).intValue();
            Set<Character> bigs = comesOf(touched(smalls, (char) ('a' + lot)));
            came += big >= 0 && bigs.contains(bigLetter(big)) ? 1 : 0;
            smalls = laysOf(bigs);
        }
        return big == -1 ? bits(smalls) : came;
    }

    // ---- sheets

    private int found(int number) {
        finding = number;
        return -10 - number;
    }

    private int[] items(int s) {
        int n = java.lang.reflect.Array.getLength(sheets[s]);
        return IntStream.range(0, n).map(i -> java.lang.reflect.Array.getInt(sheets[s], i)).toArray();
    }

    private static void store(Object row, int form, int i, int v) {
        switch (form) {
            case 0 -> ((byte[]) row)[i] = (byte) v;
            case 1 -> ((short[]) row)[i] = (short) v;
            default -> ((int[]) row)[i] = v;
        }
    }

    private static int load(Object row, int form, int i) {
        return switch (form) {
            case 0 -> ((byte[]) row)[i];
            case 1 -> ((short[]) row)[i];
            default -> ((int[]) row)[i];
        };
    }

    public int sheet(int s, int form, int n) {
        if (!in(s, 0, 3) || !in(form, 0, 2) || n > 60) {
            return -2;
        }
        try {
            sheets[s] = form == 0 ? new byte[n] : form == 1 ? new short[n] : new int[n];
            return n;
        } catch (NegativeArraySizeException e) {
            return found(5);
        }
    }

    public int lose(int s) {
        if (!in(s, 0, 3)) {
            return -2;
        }
        if (sheets[s] == null) {
            return found(1);
        }
        int had = items(s).length;
        sheets[s] = null;
        return had;
    }

    private int found(RuntimeException e) {
        if (e instanceof NullPointerException) {
            return found(1);
        }
        if (e instanceof IndexOutOfBoundsException) {
            return found(2);
        }
        if (e instanceof ClassCastException) {
            return found(3);
        }
        if (e instanceof ArrayStoreException) {
            return found(4);
        }
        throw e;
    }

    public int put(int s, int form, int i, int v) {
        if (!in(s, 0, 3) || !in(form, 0, 2)) {
            return -2;
        }
        try {
            store(sheets[s], form, i, v);
            return 1;
        } catch (RuntimeException e) {
            return found(e);
        }
    }

    public int get(int s, int form, int i) {
        if (!in(s, 0, 3) || !in(form, 0, 2)) {
            return Integer.MIN_VALUE;
        }
        try {
            return load(sheets[s], form, i);
        } catch (RuntimeException e) {
            found(e);
            return Integer.MIN_VALUE;
        }
    }

    public int copy(int s, int i, int t, int j, int n) {
        if (!in(s, 0, 3) || !in(t, 0, 3)) {
            return -2;
        }
        try {
            System.arraycopy(sheets[s], i, sheets[t], j, n);
            return 1;
        } catch (RuntimeException e) {
            return found(e);
        }
    }

    public int write(int what, int s) {
        if (!in(what, 0, 1) || !in(s, 0, 3)) {
            return -2;
        }
        if (sheets[s] == null) {
            return found(1);
        }
        int form = sheets[s] instanceof byte[] ? 0 : sheets[s] instanceof short[] ? 1 : 2;
        int n = Math.min(30, items(s).length);
        for (int w = 0; w < n; w++) {
            store(sheets[s], form, w, week(w, what));
        }
        return n;
    }

    public int count(int what) {
        if (!in(what, 0, 8)) {
            return -2;
        }
        int plus = (int) parts(0).stream().filter(Plain::isPlus).count();
        return new int[] {parts(0).size(), parts(1).size(), texts[0].length(), texts[1].length(),
            layings.size(), sights.size(), plus, bits(first), finding}[what];
    }

    public long digest() {
        List<Number> all = new ArrayList<>();
        IntStream.range(0, 8).forEach(what -> all.add(count(what)));
        all.addAll(List.of(fault(0), fault(1)));
        IntStream.range(0, parts(0).size()).forEach(l -> all.addAll(List.of(rule(l, 0), rule(l, 1), rule(l, 2))));
        IntStream.range(0, parts(1).size()).forEach(d -> all.addAll(List.of(dust(d, 0), dust(d, 1))));
        IntStream.of(0, 1, 2, 9).forEach(w -> all.addAll(List.of(week(w, 0), week(w, 1))));
        all.addAll(List.of(judged(), two(), second(3), touch(2, 1, 2, 0), touch(2, 1, 2, 1)));
        all.addAll(List.of(steady(-1), steady(0), round(5, 0), round(5, 1), moved(1), lot(7, 9, -1)));
        for (int it = 0; it < 8; it++) {
            all.addAll(List.of(keepOff(3, it, 0), keepOff(3, it, 1), bars(it), play(2, it, 0), play(2, it, 1)));
            all.addAll(List.of(stands(it, 0), stands(it, 1), watch(it)));
            all.addAll(List.of(cat(4, it, 0), cat(4, it, 1), let(4, it)));
        }
        BigInteger h = BigInteger.valueOf(17);
        for (Number x : all) {
            h = h.multiply(BigInteger.valueOf(31)).add(BigInteger.valueOf(x.longValue()));
        }
        return h.longValue();
    }
}
