/** The house in which everything happens small first; ../shared/DOC.md says what each call answers. */
public final class SmallFirst {
    public static final int NONE = -1, BAD = -2, NOT = -3, FULL = -4;

    private static final int NULL = 1, INDEX = 2, CAST = 3, STORE = 4, SIZE = 5;
    private static final int THINGS = 8, SETS = 256, ALL = 255;
    private static final int LAW_BYTES = 79, DUST_BYTES = 35;
    private static final int MOST_LAWS = 16, MOST_DUST = 12;
    private static final int WEEKS = 30, MOST_LAYINGS = 12, MOST_SEEN = 8;
    private static final int FORMS = 3, SHEETS = 4, MOST_ITEMS = 60;
    private static final int SIXTEENTHS = 16;
    private static final int LEAST_INT = -2147483648;
    private static final long LEAST_LONG = -9223372036854775808L;

    private final Text lawText;
    private final Text dustText;
    private final Laws laws;
    private final Dust dusts;
    private final House tables;
    private final Weeks weeks;
    private final Seen sights;
    private final Sheet[] sheets;
    private boolean tablesStale;
    private int latestFinding;

    public SmallFirst() {
        lawText = new Text(LAW_BYTES);
        dustText = new Text(DUST_BYTES);
        laws = new Laws();
        dusts = new Dust();
        tables = new House();
        tablesStale = false;
        weeks = new Weeks();
        sights = new Seen();
        sheets = new Sheet[SHEETS];
        for (int s = 0; s < SHEETS; s++) {
            sheets[s] = new Sheet();
        }
        latestFinding = 0;
    }

    // ---- laws

    public int type(int text, int b) {
        Text told = textOf(text);
        if (told == null || !isBits(b)) {
            return BAD;
        }
        if (!told.append(b)) {
            return FULL;
        }
        readAgain(text);
        return told.size();
    }

    public int wipe(int text) {
        Text told = textOf(text);
        if (told == null) {
            return BAD;
        }
        int had = told.size();
        told.clear();
        readAgain(text);
        return had;
    }

    public int undo(int text) {
        Text told = textOf(text);
        if (told == null) {
            return BAD;
        }
        if (!told.dropLast()) {
            return NOT;
        }
        readAgain(text);
        return told.size();
    }

    public int fault(int text) {
        if (textOf(text) == null) {
            return BAD;
        }
        return text == 0 ? laws.faultPlace() : dusts.faultPlace();
    }

    public int rule(int law, int what) {
        if (law < 0 || law >= laws.size() || what < 0 || what > 2) {
            return BAD;
        }
        if (what == 0) {
            return laws.smallOf(law);
        }
        if (what == 1) {
            return laws.isPlus(law) ? 1 : 0;
        }
        return laws.bigOf(law);
    }

    public int dust(int dust, int what) {
        if (dust < 0 || dust >= dusts.size() || !isEither(what)) {
            return BAD;
        }
        return what == 0 ? dusts.bigOf(dust) : dusts.smallOf(dust);
    }

    public int first(int small) {
        if (!isBits(small)) {
            return BAD;
        }
        int was = weeks.firstSet();
        weeks.setFirst(small);
        return was;
    }

    // ---- weeks

    public int comes(int small) {
        return isBits(small) ? freshHouse().comesBy(small) : BAD;
    }

    public int lays(int big) {
        return isBits(big) ? dusts.laidBy(big) : BAD;
    }

    public int lay(int week, int small, int is) {
        if (!isWeek(week) || !isThing(small) || !isEither(is)) {
            return BAD;
        }
        if (!weeks.addLaying(week, small, is)) {
            return FULL;
        }
        return weeks.layings();
    }

    public int back() {
        if (!weeks.dropLaying()) {
            return NOT;
        }
        return weeks.layings();
    }

    public int week(int week, int what) {
        if (!isWeek(week) || !isEither(what)) {
            return BAD;
        }
        weeks.runTo(freshHouse(), week);
        return what == 0 ? weeks.smallIn(week) : weeks.bigIn(week);
    }

    public int judged() {
        House house = freshHouse();
        weeks.runTo(house, WEEKS - 1);
        for (int w = 0; w < WEEKS; w++) {
            if (house.disagreeBy(weeks.smallIn(w)) != 0) {
                return w;
            }
        }
        return NONE;
    }

    public int two() {
        for (int small = 0; small < THINGS; small++) {
            if (Integer.bitCount(laws.standsFor(small)) >= 2) {
                return small;
            }
        }
        return NONE;
    }

    public int second(int small) {
        if (!isBits(small)) {
            return BAD;
        }
        House house = freshHouse();
        return house.comesBy(house.comesBy(small));
    }

    // ---- plans

    public int touch(int k, int come, int not, int what) {
        if (!isSpan(k) || !isBits(come) || !isBits(not) || !isEither(what) || (come & not) != 0) {
            return BAD;
        }
        return numberOrBits(Plans.fewestTouched(freshHouse(), weeks.firstSet(), k, come, not), what);
    }

    public int keepOff(int k, int big, int what) {
        if (!isSpan(k) || !isThing(big) || !isEither(what)) {
            return BAD;
        }
        return numberOrBits(Plans.fewestSwept(freshHouse(), weeks.firstSet(), k, 1 << big), what);
    }

    public int bars(int big) {
        if (!isThing(big)) {
            return BAD;
        }
        House house = freshHouse();
        int barred = 0;
        for (int set = 0; set < SETS; set++) {
            barred += (house.disagreeBy(set) >> big) & 1;
        }
        return barred;
    }

    public int play(int n, int big, int what) {
        if (n < 0 || n > Plans.MOST_TURNS || !isThing(big) || !isEither(what)) {
            return BAD;
        }
        House house = freshHouse();
        int bit = 1 << big;
        if (what == 0) {
            return Plans.endsInComing(house, weeks.firstSet(), bit, n) ? 1 : 0;
        }
        return Plans.firstTouch(house, weeks.firstSet(), bit, n);
    }

    public int steady(int i) {
        if (i < NONE || i > ALL) {
            return BAD;
        }
        House house = freshHouse();
        int found = 0;
        for (int set = 0; set < SETS; set++) {
            if (house.weekBehind(set) == set) {
                if (found == i) {
                    return set;
                }
                found++;
            }
        }
        return i == NONE ? found : NONE;
    }

    public int round(int small, int what) {
        if (!isBits(small) || !isEither(what)) {
            return BAD;
        }
        House house = freshHouse();
        return what == 0 ? Plans.weeksToRepeat(house, small) : Plans.roundLength(house, small);
    }

    // ---- seen

    public int seen(int small, int big) {
        if (!isBits(small) || !isBits(big)) {
            return BAD;
        }
        if (!sights.addSight(small, big)) {
            return FULL;
        }
        return sights.size();
    }

    public int forget() {
        int had = sights.size();
        sights.clear();
        return had;
    }

    public int read(int s) {
        if (!isSheet(s)) {
            return BAD;
        }
        if (sheets[s].isLost()) {
            return finding(NULL);
        }
        Sheet from = sheets[s];
        int taken = 0;
        for (int i = 0; i + 1 < from.size(); i += 2) {
            int small = from.item(i);
            int big = from.item(i + 1);
            if (!isBits(small) || !isBits(big) || !sights.addSight(small, big)) {
                return taken;
            }
            taken++;
        }
        return taken;
    }

    public int stands(int big, int what) {
        if (!isThing(big) || !isEither(what)) {
            return BAD;
        }
        return what == 0 ? sights.howManyStand(big) : sights.fewestStand(big);
    }

    public int watch(int big) {
        return isThing(big) ? sights.nearestHalf(big) : BAD;
    }

    public int moved(int big) {
        if (!isBits(big)) {
            return BAD;
        }
        House house = freshHouse();
        int could = 0;
        for (int small = 0; small < THINGS; small++) {
            if (house.comesBy(weeks.firstSet() ^ (1 << small)) == big) {
                could |= 1 << small;
            }
        }
        return could;
    }

    public long cat(int p, int big, int what) {
        if (!isChance(p) || !isThing(big) || !isEither(what)) {
            return LEAST_LONG - BAD;
        }
        int below = Chance.WHOLE;
        int above = Chance.withCat(freshHouse(), weeks.firstSet(), 1 << big, p);
        return Chance.lowest(what == 0 ? above : below, above, below);
    }

    public int let(int p, int big) {
        if (!isChance(p) || !isThing(big)) {
            return BAD;
        }
        House house = freshHouse();
        int bit = 1 << big;
        int with = Chance.withCat(house, weeks.firstSet(), bit, p);
        int without = Chance.withCat(house, weeks.firstSet(), bit, 0);
        return with < without ? 1 : 0;
    }

    public int lot(int seed, int n, int big) {
        if (n < 0 || n > 99 || big != NONE && !isThing(big)) {
            return BAD;
        }
        House house = freshHouse();
        int set = weeks.firstSet();
        int now = seed;
        int came = 0;
        for (int w = 0; w < n; w++) {
            now = 1103515245 * now + 12345;
            set ^= 1 << ((now >>> 16) % THINGS);
            if (big != NONE) {
                came += (house.comesBy(set) >> big) & 1;
            }
            set = house.weekBehind(set);
        }
        return big == NONE ? set : came;
    }

    // ---- sheets

    public int sheet(int s, int form, int n) {
        if (!isSheet(s) || !isForm(form) || n > MOST_ITEMS) {
            return BAD;
        }
        if (n < 0) {
            return finding(SIZE);
        }
        sheets[s].begin(form, n);
        return n;
    }

    public int lose(int s) {
        if (!isSheet(s)) {
            return BAD;
        }
        if (sheets[s].isLost()) {
            return finding(NULL);
        }
        int had = sheets[s].size();
        sheets[s].end();
        return had;
    }

    public int put(int s, int form, int i, int v) {
        int refusal = itemRefusal(s, form, i);
        if (refusal != 0) {
            return refusal;
        }
        sheets[s].setItem(i, v);
        return 1;
    }

    public int get(int s, int form, int i) {
        if (itemRefusal(s, form, i) != 0) {
            return LEAST_INT;
        }
        return sheets[s].item(i);
    }

    public int copy(int s, int i, int t, int j, int n) {
        if (!isSheet(s) || !isSheet(t)) {
            return BAD;
        }
        Sheet from = sheets[s];
        Sheet to = sheets[t];
        if (from.isLost() || to.isLost()) {
            return finding(NULL);
        }
        if (from.formOf() != to.formOf()) {
            return finding(STORE);
        }
        if (!from.hasItems(i, n) || !to.hasItems(j, n)) {
            return finding(INDEX);
        }
        to.takeFrom(from, i, j, n);
        return 1;
    }

    public int write(int what, int s) {
        if (!isEither(what) || !isSheet(s)) {
            return BAD;
        }
        if (sheets[s].isLost()) {
            return finding(NULL);
        }
        int written = Math.min(sheets[s].size(), WEEKS);
        weeks.runTo(freshHouse(), written - 1);
        for (int w = 0; w < written; w++) {
            sheets[s].setItem(w, what == 0 ? weeks.smallIn(w) : weeks.bigIn(w));
        }
        return written;
    }

    public int count(int what) {
        switch (what) {
            case 0:
                return laws.size();
            case 1:
                return dusts.size();
            case 2:
                return lawText.size();
            case 3:
                return dustText.size();
            case 4:
                return weeks.layings();
            case 5:
                return sights.size();
            case 6:
                return laws.plusCount();
            case 7:
                return weeks.firstSet();
            case 8:
                return latestFinding;
            default:
                return BAD;
        }
    }

    public long digest() {
        long h = digestTexts(17);
        for (int w = 0; w < 4; w++) {
            int week = w < 3 ? w : 9;
            h = mix(h, week(week, 0));
            h = mix(h, week(week, 1));
        }
        h = mix(h, judged());
        h = mix(h, two());
        h = mix(h, second(3));
        h = mix(h, touch(2, 1, 2, 0));
        h = mix(h, touch(2, 1, 2, 1));
        h = mix(h, steady(NONE));
        h = mix(h, steady(0));
        h = mix(h, round(5, 0));
        h = mix(h, round(5, 1));
        h = mix(h, moved(1));
        h = mix(h, lot(7, 9, NONE));
        for (int big = 0; big < THINGS; big++) {
            h = digestBig(h, big);
        }
        return h;
    }

    private long digestTexts(long before) {
        long h = before;
        for (int what = 0; what < 8; what++) {
            h = mix(h, count(what));
        }
        h = mix(h, fault(0));
        h = mix(h, fault(1));
        for (int law = 0; law < laws.size(); law++) {
            h = mix(h, rule(law, 0));
            h = mix(h, rule(law, 1));
            h = mix(h, rule(law, 2));
        }
        for (int d = 0; d < dusts.size(); d++) {
            h = mix(h, dust(d, 0));
            h = mix(h, dust(d, 1));
        }
        return h;
    }

    private long digestBig(long before, int big) {
        long h = before;
        h = mix(h, keepOff(3, big, 0));
        h = mix(h, keepOff(3, big, 1));
        h = mix(h, bars(big));
        h = mix(h, play(2, big, 0));
        h = mix(h, play(2, big, 1));
        h = mix(h, stands(big, 0));
        h = mix(h, stands(big, 1));
        h = mix(h, watch(big));
        h = mix(h, cat(4, big, 0));
        h = mix(h, cat(4, big, 1));
        h = mix(h, let(4, big));
        return h;
    }

    private static long mix(long h, long next) {
        return 31 * h + next;
    }

    private Text textOf(int text) {
        if (text == 0) {
            return lawText;
        }
        return text == 1 ? dustText : null;
    }

    private void readAgain(int text) {
        if (text == 0) {
            laws.readFrom(lawText);
        } else {
            dusts.readFrom(dustText);
        }
        tablesStale = true;
    }

    // Texts are typed byte by byte: the tables wait until somebody asks what comes.
    private House freshHouse() {
        if (tablesStale) {
            tables.fill(laws, dusts);
            tablesStale = false;
        }
        return tables;
    }

    private int finding(int number) {
        latestFinding = number;
        return -10 - number;
    }

    // put and get refuse alike; only what they answer then differs.
    private int itemRefusal(int s, int form, int i) {
        if (!isSheet(s) || !isForm(form)) {
            return BAD;
        }
        if (sheets[s].isLost()) {
            return finding(NULL);
        }
        if (sheets[s].formOf() != form) {
            return finding(CAST);
        }
        return sheets[s].hasItems(i, 1) ? 0 : finding(INDEX);
    }

    private static int numberOrBits(int set, int what) {
        return set == NONE || what == 1 ? set : Integer.bitCount(set);
    }

    private static boolean isBits(int bits) {
        return bits >= 0 && bits <= ALL;
    }

    private static boolean isThing(int thing) {
        return thing >= 0 && thing < THINGS;
    }

    private static boolean isEither(int what) {
        return what == 0 || what == 1;
    }

    private static boolean isWeek(int week) {
        return week >= 0 && week < WEEKS;
    }

    private static boolean isSpan(int k) {
        return k >= 1 && k <= 9;
    }

    private static boolean isChance(int p) {
        return p >= 0 && p <= SIXTEENTHS;
    }

    private static boolean isSheet(int s) {
        return s >= 0 && s < SHEETS;
    }

    private static boolean isForm(int form) {
        return form >= 0 && form < FORMS;
    }

    private static boolean isSmallLetter(int b) {
        return b >= 'a' && b <= 'h';
    }

    private static boolean isBigLetter(int b) {
        return b >= 'A' && b <= 'H';
    }

    /** Bytes that are typed, at most as many as it was made for. */
    private static final class Text {
        private final int[] bytes;
        private int length;

        Text(int most) {
            bytes = new int[Math.max(most, 0)];
            length = 0;
        }

        int size() {
            return length;
        }

        int byteAt(int i) {
            return i >= 0 && i < length && i < bytes.length ? bytes[i] : NONE;
        }

        boolean append(int b) {
            if (length < 0 || length >= bytes.length) {
                return false;
            }
            bytes[length] = b;
            length++;
            return true;
        }

        boolean dropLast() {
            if (length <= 0) {
                return false;
            }
            length--;
            return true;
        }

        void clear() {
            length = 0;
        }
    }

    /** What a text is read into, byte by byte; nothing if it has a fault. */
    private abstract static class Reading {
        static final int WRONG = -1, START = 0, WHOLE = 1;

        private int count;
        private int fault;

        Reading() {
            count = 0;
            fault = NONE;
        }

        abstract int stateBehind(int state, int b);

        final int size() {
            return count;
        }

        final int faultPlace() {
            return fault;
        }

        final void addOne() {
            count++;
        }

        final void readFrom(Text text) {
            count = 0;
            fault = NONE;
            int state = START;
            for (int i = 0; i < text.size() && fault == NONE; i++) {
                state = stateBehind(state, text.byteAt(i));
                if (state == WRONG) {
                    fault = i;
                }
            }
            if (fault == NONE && state != WHOLE && text.size() > 0) {
                fault = text.size();
            }
            if (fault != NONE) {
                count = 0;
            }
        }
    }

    private static final class Laws extends Reading {
        private static final int ONE = 2, PAIR = 3, SIGN = 4;

        private final int[] small = new int[MOST_LAWS];
        private final boolean[] plus = new boolean[MOST_LAWS];
        private final int[] big = new int[MOST_LAWS];
        private int openSmall;
        private boolean openPlus;

        int smallOf(int law) {
            return law >= 0 && law < MOST_LAWS ? small[law] : 0;
        }

        boolean isPlus(int law) {
            return law >= 0 && law < MOST_LAWS && plus[law];
        }

        int bigOf(int law) {
            return law >= 0 && law < MOST_LAWS ? big[law] : 0;
        }

        int plusCount() {
            int found = 0;
            for (int law = 0; law < size(); law++) {
                if (isPlus(law)) {
                    found++;
                }
            }
            return found;
        }

        int standsFor(int thing) {
            int bigs = 0;
            for (int law = 0; law < size(); law++) {
                if (isPlus(law) && (smallOf(law) >> thing & 1) == 1) {
                    bigs |= 1 << bigOf(law);
                }
            }
            return bigs;
        }

        int heldBy(int set, boolean wantPlus) {
            int bigs = 0;
            for (int law = 0; law < size(); law++) {
                if (isPlus(law) == wantPlus && (smallOf(law) & ~set) == 0) {
                    bigs |= 1 << bigOf(law);
                }
            }
            return bigs;
        }

        int stateBehind(int state, int b) {
            switch (state) {
                case START:
                    return beginLaw(b);
                case ONE:
                    return isSmallLetter(b) ? pairWith(b) : takeSign(b);
                case PAIR:
                    return takeSign(b);
                case SIGN:
                    return endLaw(b);
                case WHOLE:
                    return b == ';' ? START : WRONG;
                default:
                    return WRONG;
            }
        }

        private int beginLaw(int b) {
            if (size() >= MOST_LAWS || !isSmallLetter(b)) {
                return WRONG;
            }
            openSmall = 1 << (b - 'a');
            return ONE;
        }

        private int pairWith(int b) {
            int bit = 1 << (b - 'a');
            if (bit <= openSmall) {
                return WRONG;
            }
            openSmall |= bit;
            return PAIR;
        }

        private int takeSign(int b) {
            openPlus = b == '+';
            return openPlus || b == '-' ? SIGN : WRONG;
        }

        private int endLaw(int b) {
            int law = size();
            if (!isBigLetter(b) || law < 0 || law >= MOST_LAWS) {
                return WRONG;
            }
            small[law] = openSmall;
            plus[law] = openPlus;
            big[law] = b - 'A';
            addOne();
            return WHOLE;
        }
    }

    private static final class Dust extends Reading {
        private static final int OPEN = 2;

        private final int[] big = new int[MOST_DUST];
        private final int[] small = new int[MOST_DUST];
        private int openBig;

        int bigOf(int dust) {
            return dust >= 0 && dust < MOST_DUST ? big[dust] : 0;
        }

        int smallOf(int dust) {
            return dust >= 0 && dust < MOST_DUST ? small[dust] : 0;
        }

        int laidBy(int bigs) {
            int lie = 0;
            for (int d = 0; d < size(); d++) {
                if ((bigs >> bigOf(d) & 1) == 1) {
                    lie |= 1 << smallOf(d);
                }
            }
            return lie;
        }

        int stateBehind(int state, int b) {
            switch (state) {
                case START:
                    return beginDust(b);
                case OPEN:
                    return endDust(b);
                case WHOLE:
                    return b == ';' ? START : WRONG;
                default:
                    return WRONG;
            }
        }

        private int beginDust(int b) {
            if (size() >= MOST_DUST || !isBigLetter(b)) {
                return WRONG;
            }
            openBig = b - 'A';
            return OPEN;
        }

        private int endDust(int b) {
            int dust = size();
            if (!isSmallLetter(b) || dust < 0 || dust >= MOST_DUST) {
                return WRONG;
            }
            big[dust] = openBig;
            small[dust] = b - 'a';
            addOne();
            return WHOLE;
        }
    }

    /** What comes by each set of small things, and what lies a week behind it, as tables. */
    private static final class House {
        private final int[] made = new int[SETS];
        private final int[] barred = new int[SETS];
        private final int[] behind = new int[SETS];

        void fill(Laws laws, Dust dust) {
            for (int set = 0; set < SETS; set++) {
                made[set] = laws.heldBy(set, true);
                barred[set] = laws.heldBy(set, false);
                behind[set] = dust.laidBy(made[set] & ~barred[set]);
            }
        }

        int comesBy(int set) {
            return made[set & ALL] & ~barred[set & ALL];
        }

        int disagreeBy(int set) {
            return made[set & ALL] & barred[set & ALL];
        }

        int weekBehind(int set) {
            return behind[set & ALL];
        }
    }

    /** The first week, the layings, and the weeks that come of them. */
    private static final class Weeks {
        private final int[] layWeek = new int[MOST_LAYINGS];
        private final int[] layBit = new int[MOST_LAYINGS];
        private final boolean[] layIs = new boolean[MOST_LAYINGS];
        private final int[] lies = new int[WEEKS];
        private final int[] came = new int[WEEKS];
        private int first;
        private int count;

        Weeks() {
            first = 0;
            count = 0;
        }

        int firstSet() {
            return first;
        }

        void setFirst(int set) {
            first = set & ALL;
        }

        int layings() {
            return count;
        }

        boolean addLaying(int week, int small, int is) {
            if (count < 0 || count >= MOST_LAYINGS) {
                return false;
            }
            layWeek[count] = week;
            layBit[count] = 1 << small;
            layIs[count] = is == 1;
            count++;
            return true;
        }

        boolean dropLaying() {
            if (count <= 0) {
                return false;
            }
            count--;
            return true;
        }

        void runTo(House house, int last) {
            int set = first;
            int bigs = 0;
            for (int w = 0; w <= last && w < WEEKS; w++) {
                if (w > 0) {
                    bigs = house.comesBy(set);
                    set = house.weekBehind(set);
                }
                set = withLayings(w, set);
                came[w] = bigs;
                lies[w] = set;
            }
        }

        // Only as far as runTo came since the last change.
        int smallIn(int week) {
            return week >= 0 && week < WEEKS ? lies[week] : 0;
        }

        int bigIn(int week) {
            return week >= 0 && week < WEEKS ? came[week] : 0;
        }

        private int withLayings(int week, int before) {
            int set = before;
            for (int i = 0; i < count && i < MOST_LAYINGS; i++) {
                if (layWeek[i] == week) {
                    set = layIs[i] ? set | layBit[i] : set & ~layBit[i];
                }
            }
            return set;
        }
    }

    /** Plans from a set of small things on, without layings. */
    private static final class Plans {
        static final int MOST_TURNS = 4;

        private Plans() {
        }

        static int fewestTouched(House house, int first, int k, int come, int not) {
            int best = NONE;
            for (int touched = 0; touched < SETS; touched++) {
                if (isFewer(touched, best)) {
                    int bigs = bigsIn(house, first ^ touched, k);
                    if ((bigs & come) == come && (bigs & not) == 0) {
                        best = touched;
                    }
                }
            }
            return best;
        }

        static int fewestSwept(House house, int first, int k, int bit) {
            int best = NONE;
            for (int swept = 0; swept < SETS; swept++) {
                boolean liesAll = (swept & ~first) == 0;
                if (liesAll && isFewer(swept, best) && staysOff(house, first & ~swept, k, bit)) {
                    best = swept;
                }
            }
            return best;
        }

        static int weeksToRepeat(House house, int start) {
            int set = start;
            for (int w = 1; w <= SETS; w++) {
                set = house.weekBehind(set);
                if (weekOf(house, start, set, w) != NONE) {
                    return w;
                }
            }
            return NONE;
        }

        static int roundLength(House house, int start) {
            int repeat = weeksToRepeat(house, start);
            int set = start;
            for (int w = 0; w < repeat; w++) {
                set = house.weekBehind(set);
            }
            return repeat - weekOf(house, start, set, repeat);
        }

        static boolean endsInComing(House house, int set, int bit, int n) {
            return itComes(house, set, bit, n, true);
        }

        // 'wants': whether the one whose turn it is wants it to come.
        private static boolean itComes(House house, int set, int bit, int left, boolean wants) {
            if (left <= 0 || left > MOST_TURNS) {
                return (house.comesBy(set) & bit) != 0;
            }
            if (itComes(house, set, bit, left - 1, !wants) == wants) {
                return wants;
            }
            for (int small = 0; small < THINGS; small++) {
                if (itComes(house, set ^ (1 << small), bit, left - 1, !wants) == wants) {
                    return wants;
                }
            }
            return !wants;
        }

        static int firstTouch(House house, int set, int bit, int n) {
            if (n <= 0 || itComes(house, set, bit, n - 1, false)) {
                return NONE;
            }
            for (int small = 0; small < THINGS; small++) {
                if (itComes(house, set ^ (1 << small), bit, n - 1, false)) {
                    return small;
                }
            }
            return NONE;
        }

        // Sets are tried from the least bits on, so that of like ones the first stays.
        private static boolean isFewer(int set, int best) {
            return best == NONE || Integer.bitCount(set) < Integer.bitCount(best);
        }

        private static int bigsIn(House house, int first, int k) {
            int set = first;
            for (int w = 1; w < k; w++) {
                set = house.weekBehind(set);
            }
            return house.comesBy(set);
        }

        private static boolean staysOff(House house, int first, int k, int bit) {
            int set = first;
            for (int w = 1; w <= k; w++) {
                if ((house.comesBy(set) & bit) != 0) {
                    return false;
                }
                set = house.weekBehind(set);
            }
            return true;
        }

        private static int weekOf(House house, int start, int wanted, int ahead) {
            int set = start;
            for (int w = 0; w < ahead; w++) {
                if (set == wanted) {
                    return w;
                }
                set = house.weekBehind(set);
            }
            return NONE;
        }
    }

    /** What was seen, and who may stand for whom by it. */
    private static final class Seen {
        private final int[] small = new int[MOST_SEEN];
        private final int[] big = new int[MOST_SEEN];
        private int count;

        Seen() {
            count = 0;
        }

        int size() {
            return count;
        }

        void clear() {
            count = 0;
        }

        boolean addSight(int lay, int came) {
            if (count < 0 || count >= MOST_SEEN) {
                return false;
            }
            small[count] = lay;
            big[count] = came;
            count++;
            return true;
        }

        int howManyStand(int thing) {
            int found = 0;
            for (int set = 0; set < SETS; set++) {
                if (mayStand(set, thing)) {
                    found++;
                }
            }
            return found;
        }

        int fewestStand(int thing) {
            int best = NONE;
            for (int set = 0; set < SETS; set++) {
                if ((best == NONE || Integer.bitCount(set) < Integer.bitCount(best)) && mayStand(set, thing)) {
                    best = set;
                }
            }
            return best;
        }

        int nearestHalf(int thing) {
            int all = howManyStand(thing);
            if (all == 0) {
                return NONE;
            }
            int best = NONE;
            int bestFar = 0;
            for (int lying = 0; lying < THINGS; lying++) {
                int far = Math.abs(2 * howManyStandWith(thing, lying) - all);
                if (best == NONE || far < bestFar) {
                    best = lying;
                    bestFar = far;
                }
            }
            return best;
        }

        private int howManyStandWith(int thing, int lying) {
            int found = 0;
            for (int set = 0; set < SETS; set++) {
                if ((set >> lying & 1) == 1 && mayStand(set, thing)) {
                    found++;
                }
            }
            return found;
        }

        private boolean mayStand(int set, int thing) {
            for (int i = 0; i < count && i < MOST_SEEN; i++) {
                boolean came = (big[i] >> thing & 1) == 1;
                if (came != ((small[i] & set) != 0)) {
                    return false;
                }
            }
            return true;
        }
    }

    /** Chances with the cat, in parts of 16 times 8. */
    private static final class Chance {
        static final int WHOLE = SIXTEENTHS * THINGS;

        private Chance() {
        }

        static int withCat(House house, int first, int bit, int p) {
            int parts = 0;
            if ((house.comesBy(first) & bit) != 0) {
                parts += (SIXTEENTHS - p) * THINGS;
            }
            for (int small = 0; small < THINGS; small++) {
                if ((house.comesBy(first ^ (1 << small)) & bit) != 0) {
                    parts += p;
                }
            }
            return parts;
        }

        static int lowest(int part, int above, int below) {
            int a = below;
            int b = above;
            for (int i = 0; i < WHOLE && b != 0; i++) {
                int rest = a % b;
                a = b;
                b = rest;
            }
            return a == 0 ? part : part / a;
        }
    }

    /** A row of items of one form, or a lost one; its room is made once and used again. */
    private static final class Sheet {
        private final int[] items = new int[MOST_ITEMS];
        private int form;
        private int length;
        private boolean lost;

        Sheet() {
            form = 0;
            length = 0;
            lost = true;
        }

        boolean isLost() {
            return lost;
        }

        int formOf() {
            return form;
        }

        int size() {
            return length;
        }

        void begin(int newForm, int n) {
            form = newForm;
            length = Math.max(0, Math.min(n, MOST_ITEMS));
            lost = false;
            for (int i = 0; i < length; i++) {
                items[i] = 0;
            }
        }

        void end() {
            length = 0;
            lost = true;
        }

        // Compared without a sum that could wrap.
        boolean hasItems(int from, int n) {
            return from >= 0 && n >= 0 && from <= length && n <= length - from;
        }

        int item(int i) {
            return hasItems(i, 1) && i < MOST_ITEMS ? items[i] : 0;
        }

        void setItem(int i, int v) {
            if (hasItems(i, 1) && i < MOST_ITEMS) {
                items[i] = asForm(v);
            }
        }

        void takeFrom(Sheet from, int i, int j, int n) {
            if (from.hasItems(i, n) && hasItems(j, n)) {
                System.arraycopy(from.items, i, items, j, n);
            }
        }

        private int asForm(int v) {
            if (form == 0) {
                return (byte) v;
            }
            return form == 1 ? (short) v : v;
        }
    }
}
