import java.util.Arrays;

/** Boxes of sorts, the laws by which a list of boxes is lawful, and what can be asked of such lists. */
public final class NoneWithin {
    public static final int NONE = -1, BAD = -2, NO = -3, FULL = -4;

    private static final int MOST_SORTS = 8;
    private static final int MOST_BOXES = 16;
    private static final int MOST_WORTH = 99;
    private static final int MOST_BYTES = 200;
    private static final int MOST_ALIKE = 9;
    private static final int MOST_THINGS = MOST_SORTS * MOST_ALIKE;
    private static final int MOST_NUMBERED = 60;
    private static final int MOST_SHARED = 30;
    private static final int FIRST_SORTS = 4;
    /** Up to so many sorts all boxes fit into one set of bits. */
    private static final int SORTS_OF_ALL_LISTS = 4;
    private static final int MOST_BY_CHANCE = 8;
    private static final int IMAGES = 2;
    /** Above all that boxes can cost, and far enough from the greatest number to be added to. */
    private static final int NEVER = 1 << 30;
    private static final int OTHER_BAD = -10;
    private static final int OTHER_NO = -20;

    private static final int SIZED = 0, NONE_WITHIN = 1, THREES = 2, SHARE = 3, BOTH = 4;

    private final Shop shop = new Shop();
    private final int[] alike = new int[MOST_SORTS];
    private final Image[] images = new Image[IMAGES];
    private final int[] text = new int[MOST_BYTES];
    private final Fraction fraction = new Fraction();
    private final ShopReader reader = new ShopReader(text);
    private final LawTable table = new LawTable();
    private final Keeper keeper = new Keeper(table);
    private final Lister lister = new Lister(table);
    private final Player player = new Player(table);
    private final int[] openers = new int[1 << MOST_SORTS];
    private final int[] lengths = new int[MOST_BOXES];
    private final long[] ways = new long[MOST_THINGS + 1];
    private int bytes;
    private int badCalls;
    private int noCalls;
    private int fullCalls;

    public NoneWithin() {
        for (int i = 0; i < IMAGES; i++) {
            images[i] = new Image();
        }
    }

    // ---- shops

    public int sorts(int n) {
        if (!between(n, 1, MOST_SORTS)) {
            return refuse(BAD, BAD);
        }
        int was = shop.n;
        shop.n = n;
        shop.boxes = 0;
        return was;
    }

    public int sizes(int low, int high) {
        if (!between(low, 0, MOST_SORTS) || !between(high, low, MOST_SORTS)) {
            return refuse(BAD, BAD);
        }
        shop.low = low;
        shop.high = high;
        return 1;
    }

    public int box(int set, int worth) {
        if (!isBox(set) || !between(worth, 0, MOST_WORTH) || shop.holds(set)) {
            return refuse(BAD, BAD);
        }
        if (shop.boxes >= MOST_BOXES) {
            return refuse(FULL, FULL);
        }
        shop.put(set, worth);
        return shop.boxes - 1;
    }

    public int pop() {
        if (shop.boxes < 1) {
            return refuse(NO, NO);
        }
        shop.boxes--;
        return shop.sets[shop.boxes];
    }

    public int told(int i, int what) {
        if (!between(i, 0, shop.boxes - 1) || !between(what, 0, 1)) {
            return refuse(BAD, BAD);
        }
        return what == 0 ? shop.sets[i] : shop.worths[i];
    }

    public int type(long v, int n) {
        if (!between(n, 1, 8)) {
            return refuse(BAD, BAD);
        }
        if (bytes + n > MOST_BYTES) {
            return refuse(FULL, FULL);
        }
        for (int i = n - 1; i >= 0; i--) {
            text[bytes] = (int) (v >>> (8 * i)) & 255;
            bytes++;
        }
        return bytes;
    }

    public int clear() {
        int had = bytes;
        bytes = 0;
        return had;
    }

    public int read() {
        int fault = reader.parse(bytes);
        if (fault != NONE) {
            return -10 - fault;
        }
        shop.take(reader.shop);
        return shop.boxes;
    }

    // ---- the list

    public int judge(int law, int what) {
        if (!isLaw(law) || !between(what, 0, 1)) {
            return refuse(BAD, BAD);
        }
        layOverList(law);
        int first = table.firstBreak();
        if (first == NONE) {
            return NONE;
        }
        return what == 0 ? first % LawTable.NUMBERS : first / LawTable.NUMBERS;
    }

    public int fullness() {
        fraction.put(0, 1);
        for (int i = 0; i < shop.boxes; i++) {
            fraction.addOneBy(choose(shop.n, Integer.bitCount(shop.sets[i])));
        }
        return 1;
    }

    public int kept(int law, int wishes, int what) {
        if (!isLaw(law) || !between(wishes, 0, (1 << shop.boxes) - 1) || !between(what, 0, 3)) {
            return refuse(BAD, BAD);
        }
        layOverList(law);
        boolean byWorth = what >= 2;
        for (int i = 0; i < shop.boxes; i++) {
            keeper.value(i, byWorth ? shop.worths[i] : 1);
        }
        if (!keeper.keep(wishes)) {
            return NONE;
        }
        return what == 0 || what == 2 ? keeper.bestSum() : keeper.bestBits();
    }

    public int rows(int what) {
        if (!between(what, 0, 1)) {
            return refuse(BAD, BAD);
        }
        return what == 0 ? fewestRows() : longestRow();
    }

    public int opens(int set, int what) {
        if (!isBox(set) || !between(what, 0, 1)) {
            return refuse(BAD, BAD);
        }
        int best = fewestOpening(set);
        if (best == NONE) {
            return NONE;
        }
        return what == 0 ? best >>> MOST_BOXES : best & ((1 << MOST_BOXES) - 1);
    }

    public int alone() {
        int seen = 0;
        int twice = 0;
        for (int i = 0; i < shop.boxes; i++) {
            twice |= seen & shop.sets[i];
            seen |= shop.sets[i];
        }
        int once = seen & ~twice;
        int found = 0;
        for (int i = 0; i < shop.boxes; i++) {
            if ((shop.sets[i] & once) != 0) {
                found |= 1 << i;
            }
        }
        return found;
    }

    // ---- brackets

    public int row(int set, int what) {
        if (!isBox(set) || !between(what, 0, 3)) {
            return refuse(BAD, OTHER_BAD);
        }
        int matched = matchedSorts(set, shop.n);
        int least = set & matched;
        int loose = ((1 << shop.n) - 1) & ~matched;
        switch (what) {
            case 0:
                return (loose & ~set) == 0 ? NONE : set | Integer.lowestOneBit(loose & ~set);
            case 1:
                return least;
            case 2:
                return least | lowestBits(loose, shop.n / 2 - Integer.bitCount(least));
            default:
                return Integer.bitCount(loose) + 1;
        }
    }

    // ---- all lists

    public int more(int law) {
        if (!isLaw(law)) {
            return refuse(BAD, BAD);
        }
        layOverList(law);
        if (table.firstBreak() != NONE) {
            return NONE;
        }
        int end = 1 << shop.n;
        for (int set = 0; set < end; set++) {
            if (!shop.holds(set) && table.admits(set)) {
                return set;
            }
        }
        return NONE;
    }

    public int lists(int law, int what) {
        if (!isLaw(law) || !between(what, 0, 3)) {
            return refuse(BAD, BAD);
        }
        if (shop.n > SORTS_OF_ALL_LISTS) {
            return refuse(NO, NO);
        }
        layOverAll(law);
        lister.tell();
        switch (what) {
            case 0:
                return lister.lawful;
            case 1:
                return lister.whole;
            case 2:
                return lister.fewest;
            default:
                return lister.most;
        }
    }

    public int game(int law, int what) {
        if (!isLaw(law) || !between(what, 0, 1)) {
            return refuse(BAD, OTHER_BAD);
        }
        if (!beginGame(law)) {
            return refuse(NO, OTHER_NO);
        }
        int best = player.winningBox();
        if (what == 1) {
            return best;
        }
        return best == NONE ? 0 : 1;
    }

    public int chance(int law) {
        if (!isLaw(law)) {
            return refuse(BAD, BAD);
        }
        if (!beginGame(law) || Integer.bitCount(player.comers()) > MOST_BY_CHANCE) {
            return refuse(NO, NO);
        }
        fraction.put(player.winningParts(), Player.PARTS);
        return 1;
    }

    // ---- numbers

    public long greatest(int n) {
        if (!between(n, 0, MOST_NUMBERED)) {
            return refuse(BAD, BAD);
        }
        return choose(n, n / 2);
    }

    public long shared(int n, int k) {
        if (!between(k, 1, MOST_SHARED) || !between(n, 2 * k, MOST_NUMBERED)) {
            return refuse(BAD, BAD);
        }
        return choose(n - 1, k - 1);
    }

    public int several(int sort, int m) {
        if (!between(sort, 0, MOST_SORTS - 1) || !between(m, 0, MOST_ALIKE)) {
            return refuse(BAD, BAD);
        }
        int was = alike[sort];
        alike[sort] = m;
        return was;
    }

    public long things(int s) {
        if (!between(s, 0, MOST_THINGS)) {
            return refuse(BAD, BAD);
        }
        countWays();
        return ways[s];
    }

    public int middle(int what) {
        if (!between(what, 0, 1)) {
            return refuse(BAD, BAD);
        }
        int total = countWays();
        if (what == 1) {
            return total;
        }
        int best = 0;
        for (int s = 1; s <= MOST_THINGS; s++) {
            if (ways[s] > ways[best]) {
                best = s;
            }
        }
        return best;
    }

    // ---- what there is

    public long part(int what) {
        if (!between(what, 0, 1)) {
            return refuse(BAD, BAD);
        }
        return what == 0 ? fraction.above : fraction.below;
    }

    public int image(int i) {
        if (!between(i, 0, IMAGES - 1)) {
            return refuse(BAD, BAD);
        }
        Image chosen = images[i];
        chosen.there = true;
        chosen.shop.take(shop);
        System.arraycopy(alike, 0, chosen.alike, 0, MOST_SORTS);
        return 1;
    }

    public int from(int i) {
        if (!between(i, 0, IMAGES - 1)) {
            return refuse(BAD, BAD);
        }
        Image chosen = images[i];
        if (!chosen.there) {
            return refuse(NO, NO);
        }
        shop.take(chosen.shop);
        System.arraycopy(chosen.alike, 0, alike, 0, MOST_SORTS);
        return 1;
    }

    public int status(int what) {
        switch (what) {
            case 0:
                return badCalls;
            case 1:
                return noCalls;
            case 2:
                return fullCalls;
            default:
                return refuse(BAD, NONE);
        }
    }

    public int count(int what) {
        switch (what) {
            case 0:
                return shop.n;
            case 1:
                return shop.boxes;
            case 2:
                return bytes;
            case 3:
                return shop.low;
            case 4:
                return shop.high;
            default:
                return refuse(BAD, BAD);
        }
    }

    public long digest() {
        long h = 659;
        for (int what = 0; what <= 4; what++) {
            h = 31 * h + count(what);
        }
        for (int i = 0; i < shop.boxes; i++) {
            h = 31 * h + shop.sets[i];
            h = 31 * h + shop.worths[i];
        }
        for (int sort = 0; sort < MOST_SORTS; sort++) {
            h = 31 * h + alike[sort];
        }
        h = 31 * h + fraction.above;
        return 31 * h + fraction.below;
    }

    // ---- what the calls have in common

    private int refuse(int reason, int answer) {
        if (reason == BAD) {
            badCalls++;
        } else if (reason == NO) {
            noCalls++;
        } else {
            fullCalls++;
        }
        return answer;
    }

    private static boolean between(int v, int low, int high) {
        return v >= low && v <= high;
    }

    private static boolean isLaw(int law) {
        return between(law, SIZED, BOTH);
    }

    private boolean isBox(int set) {
        return between(set, 0, (1 << shop.n) - 1);
    }

    private static boolean has(int bits, int i) {
        return ((bits >>> i) & 1) != 0;
    }

    private static boolean within(int a, int b) {
        return a != b && (a & ~b) == 0;
    }

    private void layOverList(int law) {
        table.lay(law, shop.low, shop.high, shop.sets, shop.boxes);
    }

    private void layOverAll(int law) {
        table.lay(law, shop.low, shop.high, LawTable.ALL, 1 << shop.n);
    }

    private boolean beginGame(int law) {
        if (shop.n > SORTS_OF_ALL_LISTS) {
            return false;
        }
        layOverAll(law);
        int list = 0;
        for (int i = 0; i < shop.boxes; i++) {
            list |= 1 << shop.sets[i];
        }
        return player.begin(list);
    }

    /** As many rows are needed as there can be boxes none within another (Dilworth). */
    private int fewestRows() {
        table.lay(NONE_WITHIN, 0, MOST_SORTS, shop.sets, shop.boxes);
        for (int i = 0; i < shop.boxes; i++) {
            keeper.value(i, 1);
        }
        return keeper.keep(0) ? keeper.bestSum() : 0;
    }

    private int longestRow() {
        int longest = 0;
        // A box within another has fewer sorts, so its own row's length is known by then.
        for (int size = 0; size <= MOST_SORTS; size++) {
            for (int i = 0; i < shop.boxes; i++) {
                if (Integer.bitCount(shop.sets[i]) == size) {
                    lengths[i] = 1 + longestBelow(i);
                    longest = Math.max(longest, lengths[i]);
                }
            }
        }
        return longest;
    }

    private int longestBelow(int i) {
        int longest = 0;
        for (int j = 0; j < shop.boxes; j++) {
            if (within(shop.sets[j], shop.sets[i])) {
                longest = Math.max(longest, lengths[j]);
            }
        }
        return longest;
    }

    /** How many boxes (the bits above the lowest 16) and which (the lowest 16), or NONE. */
    private int fewestOpening(int set) {
        Arrays.fill(openers, NEVER);
        openers[0] = 0;
        for (int i = 0; i < shop.boxes; i++) {
            // With the number above and the bits below, fewer boxes and then lesser bits are the lesser number.
            int one = (1 << MOST_BOXES) + (1 << i);
            for (int need = 1; need <= set; need++) {
                int rest = openers[need & ~shop.sets[i]];
                if ((need & ~set) == 0 && rest != NEVER && rest + one < openers[need]) {
                    openers[need] = rest + one;
                }
            }
        }
        return openers[set] == NEVER ? NONE : openers[set];
    }

    private static int matchedSorts(int set, int n) {
        int open = 0;
        int matched = 0;
        for (int sort = 0; sort < n; sort++) {
            if (!has(set, sort)) {
                open |= 1 << sort;
            } else if (open != 0) {
                int last = Integer.highestOneBit(open);
                open &= ~last;
                matched |= last | (1 << sort);
            }
        }
        return matched;
    }

    private static int lowestBits(int bits, int many) {
        int rest = bits;
        for (int i = 0; i < many; i++) {
            rest &= ~Integer.lowestOneBit(rest);
        }
        return bits & ~rest;
    }

    /** For n up to 60 no step leaves the range of a long. */
    private static long choose(int n, int k) {
        long found = 1;
        for (int i = 1; i <= k; i++) {
            found = found * (n - k + i) / i;
        }
        return found;
    }

    /** Fills the ways to have each number of things; answers how many things there are. */
    private int countWays() {
        Arrays.fill(ways, 0);
        ways[0] = 1;
        int total = 0;
        for (int sort = 0; sort < MOST_SORTS; sort++) {
            total += alike[sort];
            // Downwards, so that what is added has not yet seen this sort.
            for (int s = total; s >= 0; s--) {
                int taken = Math.min(s, alike[sort]);
                for (int t = 1; t <= taken; t++) {
                    ways[s] += ways[s - t];
                }
            }
        }
        return total;
    }

    /** n, the sizes and the list: what a text can tell. */
    private static final class Shop {
        int n = FIRST_SORTS;
        int low = 0;
        int high = MOST_SORTS;
        int boxes = 0;
        final int[] sets = new int[MOST_BOXES];
        final int[] worths = new int[MOST_BOXES];

        Shop() {
        }

        void begin(int sortsThere) {
            n = sortsThere;
            low = 0;
            high = MOST_SORTS;
            boxes = 0;
        }

        boolean holds(int set) {
            for (int i = 0; i < boxes; i++) {
                if (sets[i] == set) {
                    return true;
                }
            }
            return false;
        }

        void put(int set, int worth) {
            if (boxes < MOST_BOXES) {
                sets[boxes] = set;
                worths[boxes] = worth;
                boxes++;
            }
        }

        void take(Shop other) {
            n = other.n;
            low = other.low;
            high = other.high;
            boxes = other.boxes;
            System.arraycopy(other.sets, 0, sets, 0, MOST_BOXES);
            System.arraycopy(other.worths, 0, worths, 0, MOST_BOXES);
        }
    }

    private static final class Image {
        boolean there = false;
        final Shop shop = new Shop();
        final int[] alike = new int[MOST_SORTS];

        Image() {
        }
    }

    private static final class Fraction {
        long above = 0;
        long below = 1;

        Fraction() {
        }

        void put(long newAbove, long newBelow) {
            long divisor = commonDivisor(newAbove, newBelow);
            if (divisor > 0) {
                above = newAbove / divisor;
                below = newBelow / divisor;
            }
        }

        void addOneBy(long divisor) {
            put(above * divisor + below, below * divisor);
        }

        /** A hundred steps are enough for any two longs. */
        private static long commonDivisor(long a, long b) {
            long greater = a;
            long lesser = b;
            for (int i = 0; i < 100 && lesser != 0; i++) {
                long rest = greater % lesser;
                greater = lesser;
                lesser = rest;
            }
            return greater;
        }
    }

    /** Reads a text into a shop of its own, so that a fault leaves the other one as it was. */
    private static final class ShopReader {
        private static final int END = 0, WORD = 1, NUMBER = 2, DASH = 3, SEMICOLON = 4, OTHER = 5;
        private static final int BLANK = 32;
        private static final int MOST_FIGURES = 2;

        final Shop shop = new Shop();
        private final int[] text;
        private int length = 0;
        private int kind = END;
        private int start = 0;
        private int end = 0;

        ShopReader(int[] text) {
            this.text = text;
        }

        /** NONE, or the fault. */
        int parse(int bytes) {
            length = Math.min(bytes, text.length);
            end = 0;
            if (!parseSorts()) {
                return start;
            }
            for (int item = 0; item <= length; item++) {
                advance();
                if (kind == END) {
                    return NONE;
                }
                if (!parseItem()) {
                    return start;
                }
            }
            return length;
        }

        private boolean parseSorts() {
            advance();
            if (!isWord("sorts")) {
                return false;
            }
            advance();
            if (!isNumber(1, MOST_SORTS)) {
                return false;
            }
            shop.begin(number());
            return parseSemicolon();
        }

        private boolean parseItem() {
            if (isWord("sizes")) {
                return parseSizes();
            }
            return isWord("box") && shop.boxes < MOST_BOXES && parseBox();
        }

        private boolean parseSizes() {
            advance();
            if (!isNumber(0, MOST_SORTS)) {
                return false;
            }
            shop.low = number();
            advance();
            if (!isNumber(shop.low, MOST_SORTS)) {
                return false;
            }
            shop.high = number();
            return parseSemicolon();
        }

        private boolean parseBox() {
            advance();
            int set = letters();
            if (set == NONE || shop.holds(set)) {
                return false;
            }
            advance();
            if (!isNumber(0, MOST_WORTH)) {
                return false;
            }
            shop.put(set, number());
            return parseSemicolon();
        }

        private boolean parseSemicolon() {
            advance();
            return kind == SEMICOLON;
        }

        /** Goes on to the next token; behind the last one that is an END at the text's length. */
        private void advance() {
            start = end;
            while (start < length && text[start] == BLANK) {
                start++;
            }
            kind = start < length ? kindOf(text[start]) : END;
            end = kind == END ? start : start + 1;
            if (kind == WORD || kind == NUMBER) {
                while (end < length && kindOf(text[end]) == kind) {
                    end++;
                }
            }
        }

        private static int kindOf(int sign) {
            if (between(sign, 'a', 'z')) {
                return WORD;
            }
            if (between(sign, '0', '9')) {
                return NUMBER;
            }
            if (sign == '-') {
                return DASH;
            }
            return sign == ';' ? SEMICOLON : OTHER;
        }

        private boolean isWord(String word) {
            if (kind != WORD || end - start != word.length()) {
                return false;
            }
            for (int i = 0; i < word.length(); i++) {
                if (text[start + i] != word.charAt(i)) {
                    return false;
                }
            }
            return true;
        }

        private boolean isNumber(int low, int high) {
            return kind == NUMBER && end - start <= MOST_FIGURES && between(number(), low, high);
        }

        private int number() {
            int found = 0;
            for (int i = start; i < end; i++) {
                found = found * 10 + text[i] - '0';
            }
            return found;
        }

        /** The box that the token tells, or NONE. */
        private int letters() {
            if (kind == DASH) {
                return 0;
            }
            if (kind != WORD) {
                return NONE;
            }
            int set = 0;
            int before = -1;
            for (int i = start; i < end; i++) {
                int sort = text[i] - 'a';
                if (sort <= before || sort >= shop.n) {
                    return NONE;
                }
                set |= 1 << sort;
                before = sort;
            }
            return set;
        }
    }

    /** A law laid over up to 16 boxes: which fit alone, which clash, which two are on the way to three. */
    private static final class LawTable {
        /** What a break's boxes stand below; how many there are stands above. */
        static final int NUMBERS = 1000000;
        static final int[] ALL = {0, 1, 2, 3, 4, 5, 6, 7, 8, 9, 10, 11, 12, 13, 14, 15};

        int law = SIZED;
        int boxes = 0;
        int fit = 0;
        private int low = 0;
        private int high = 0;
        private final int[] sets = new int[MOST_BOXES];
        private final int[] clash = new int[MOST_BOXES];
        /** Boxes one within the other, but under THREES alone: else nothing is near. */
        private final int[] near = new int[MOST_BOXES];

        LawTable() {
        }

        void lay(int newLaw, int newLow, int newHigh, int[] newSets, int newBoxes) {
            law = newLaw;
            low = newLow;
            high = newHigh;
            boxes = Math.min(newBoxes, Math.min(newSets.length, MOST_BOXES));
            System.arraycopy(newSets, 0, sets, 0, boxes);
            fit = 0;
            for (int i = 0; i < boxes; i++) {
                if (fitsAlone(sets[i])) {
                    fit |= 1 << i;
                }
                clash[i] = clashing(sets[i]);
                near[i] = nearTo(sets[i]);
            }
        }

        int all() {
            return (1 << boxes) - 1;
        }

        /** The first that break the law, with how many they are; NONE: lawful. */
        int firstBreak() {
            for (int i = 0; i < boxes; i++) {
                if (!has(fit, i)) {
                    return NUMBERS + i;
                }
            }
            for (int i = 0; i < boxes; i++) {
                int other = clash[i] >>> (i + 1);
                if (other != 0) {
                    return 2 * NUMBERS + 100 * i + i + 1 + Integer.numberOfTrailingZeros(other);
                }
            }
            for (int i = 0; i < boxes; i++) {
                for (int j = i + 1; j < boxes; j++) {
                    int third = has(near[i], j) ? (near[i] & near[j]) >>> (j + 1) : 0;
                    if (third != 0) {
                        return 3 * NUMBERS + 10000 * i + 100 * j + j + 1 + Integer.numberOfTrailingZeros(third);
                    }
                }
            }
            return NONE;
        }

        /** Whether the boxes, lawful and without this one, are lawful with it. */
        boolean admits(int set) {
            if (!fitsAlone(set) || clashing(set) != 0) {
                return false;
            }
            return !anyTwoNear(nearTo(set));
        }

        /** Which boxes can not come any more once box i joins the chosen ones. */
        int barredBy(int i, int chosen) {
            int barred = clash[i];
            int close = near[i] & chosen;
            for (int j = 0; j < boxes; j++) {
                if (has(close, j)) {
                    barred |= near[i] & near[j];
                }
            }
            return barred;
        }

        /** Which boxes can not join these, themselves lawful; NONE: they are not. */
        int barredByAll(int these) {
            int barred = all() & ~fit;
            int chosen = 0;
            for (int i = 0; i < boxes; i++) {
                if (has(these, i)) {
                    if (has(barred, i)) {
                        return NONE;
                    }
                    barred |= barredBy(i, chosen);
                    chosen |= 1 << i;
                }
            }
            return barred;
        }

        /** Whether box i and some of those among break the law. */
        boolean tangled(int i, int among) {
            return (clash[i] & among) != 0 || anyTwoNear(near[i] & among);
        }

        /** Three of which each two are one within the other are one within the next. */
        private boolean anyTwoNear(int close) {
            for (int i = 0; i < boxes; i++) {
                if (has(close, i) && (near[i] & close) != 0) {
                    return true;
                }
            }
            return false;
        }

        private boolean fitsAlone(int set) {
            return between(Integer.bitCount(set), low, high) && (set != 0 || law < SHARE);
        }

        private int clashing(int set) {
            int found = 0;
            for (int i = 0; i < boxes; i++) {
                if (sets[i] != set && clashes(set, sets[i])) {
                    found |= 1 << i;
                }
            }
            return found;
        }

        private boolean clashes(int a, int b) {
            boolean nested = within(a, b) || within(b, a);
            boolean apart = (a & b) == 0;
            switch (law) {
                case NONE_WITHIN:
                    return nested;
                case SHARE:
                    return apart;
                case BOTH:
                    return nested || apart;
                default:
                    return false;
            }
        }

        private int nearTo(int set) {
            int found = 0;
            for (int i = 0; law == THREES && i < boxes; i++) {
                if (within(set, sets[i]) || within(sets[i], set)) {
                    found |= 1 << i;
                }
            }
            return found;
        }
    }

    /** Finds the lawful boxes with all wishes that have the most value, of like ones the least as bits. */
    private static final class Keeper {
        private static final int SHIFT = 16;

        private final int[] weights = new int[MOST_BOXES];
        private final LawTable table;
        private int best = 0;
        private int bits = 0;

        Keeper(LawTable table) {
            this.table = table;
        }

        /** A box costs its bit below its value, so that no two sets weigh the same. */
        void value(int i, int v) {
            if (between(i, 0, MOST_BOXES - 1)) {
                weights[i] = (v << SHIFT) - (1 << i);
            }
        }

        boolean keep(int wishes) {
            int barred = table.barredByAll(wishes);
            if (barred == NONE) {
                return false;
            }
            best = -NEVER;
            bits = 0;
            int free = worthwhile(table.all() & ~barred & ~wishes);
            search(0, wishes, free, weigh(wishes | free));
            return true;
        }

        int bestBits() {
            return bits;
        }

        int bestSum() {
            return (best + bits) >> SHIFT;
        }

        private int worthwhile(int boxes) {
            int found = 0;
            for (int i = 0; i < table.boxes; i++) {
                if (has(boxes, i) && weights[i] > 0) {
                    found |= 1 << i;
                }
            }
            return found;
        }

        private int weigh(int boxes) {
            int sum = 0;
            for (int i = 0; i < table.boxes; i++) {
                if (has(boxes, i)) {
                    sum += weights[i];
                }
            }
            return sum;
        }

        /** All below i is decided; reach is what the chosen and the free ones weigh together. */
        private void search(int i, int chosen, int free, int reach) {
            if (reach <= best) {
                return;
            }
            int next = i;
            int taken = chosen;
            // What is in nobody's way is taken without a choice.
            while (next < table.boxes && !(has(free, next) && table.tangled(next, chosen | free))) {
                taken |= free & (1 << next);
                next++;
            }
            if (next >= table.boxes) {
                best = reach;
                bits = taken;
                return;
            }
            int rest = free & ~taken & ~(1 << next);
            int lost = rest & table.barredBy(next, taken);
            search(next + 1, taken | (1 << next), rest & ~lost, reach - weigh(lost));
            search(next + 1, taken, rest, reach - weights[next]);
        }
    }

    /** Counts the lawful sets of all boxes, and the whole ones among them. */
    private static final class Lister {
        int lawful = 0;
        int whole = 0;
        int fewest = 0;
        int most = 0;
        private final LawTable table;

        Lister(LawTable table) {
            this.table = table;
        }

        void tell() {
            lawful = 0;
            whole = 0;
            fewest = MOST_BOXES;
            most = 0;
            if (table.law == SIZED) {
                // Nothing bars another here: every set of those that fit, and one whole one.
                lawful = 1 << Integer.bitCount(table.fit);
                noteWhole(table.fit);
            } else {
                walk(0, 0, table.all() & ~table.fit);
            }
        }

        private void noteWhole(int chosen) {
            int size = Integer.bitCount(chosen);
            whole++;
            fewest = Math.min(fewest, size);
            most = Math.max(most, size);
        }

        /** Each level begins behind the box that the one above chose, so they are no more than the boxes. */
        private void walk(int begin, int chosen, int barred) {
            lawful++;
            if ((chosen | barred) == table.all()) {
                noteWhole(chosen);
            }
            for (int i = begin; i < table.boxes; i++) {
                if (!has(chosen | barred, i)) {
                    walk(i + 1, chosen | (1 << i), barred | table.barredBy(i, chosen));
                }
            }
        }
    }

    /** The game by turns from a list, with the best of both and by chance. */
    private static final class Player {
        /** Of 8 boxes that may come each chance is a whole number of 8! parts. */
        static final int PARTS = 40320;
        /** A bit for each set of 16 boxes, 64 bits a word. */
        private static final int WORDS = 1024;

        private final long[] known = new long[WORDS];
        private final long[] won = new long[WORDS];
        private final int[] parts = new int[1 << MOST_BY_CHANCE];
        private final LawTable table;
        private int list = 0;
        private int barred = 0;

        Player(LawTable table) {
            this.table = table;
        }

        /** False: the list is not lawful. */
        boolean begin(int newList) {
            list = newList;
            barred = table.barredByAll(list);
            return barred != NONE;
        }

        int comers() {
            return table.all() & ~(list | barred);
        }

        int winningBox() {
            int free = comers();
            if (table.law == SIZED) {
                // All that fit come in the end, whoever takes which: only whether they are odd counts.
                return Integer.bitCount(free) % 2 == 0 ? NONE : Integer.numberOfTrailingZeros(free);
            }
            Arrays.fill(known, 0);
            for (int i = 0; i < table.boxes; i++) {
                if (has(free, i) && !wins(list | (1 << i), barred | table.barredBy(i, list), 1)) {
                    return i;
                }
            }
            return NONE;
        }

        private boolean wins(int chosen, int shut, int depth) {
            int word = (chosen >>> 6) & (WORDS - 1);
            long bit = 1L << (chosen & 63);
            if ((known[word] & bit) != 0) {
                return (won[word] & bit) != 0;
            }
            boolean win = false;
            for (int i = 0; i < table.boxes && !win && depth <= MOST_BOXES; i++) {
                if (!has(chosen | shut, i)) {
                    win = !wins(chosen | (1 << i), shut | table.barredBy(i, chosen), depth + 1);
                }
            }
            known[word] |= bit;
            won[word] = win ? won[word] | bit : won[word] & ~bit;
            return win;
        }

        /** Of 8! parts of chance those with which who is on turn wins. */
        int winningParts() {
            Arrays.fill(parts, NONE);
            return partsFrom(list, barred, 0);
        }

        private int partsFrom(int chosen, int shut, int depth) {
            int place = placeOf(chosen & ~list);
            if (parts[place] != NONE) {
                return parts[place];
            }
            int sum = 0;
            int many = 0;
            for (int i = 0; i < table.boxes && depth <= MOST_BY_CHANCE; i++) {
                if (!has(chosen | shut, i)) {
                    sum += PARTS - partsFrom(chosen | (1 << i), shut | table.barredBy(i, chosen), depth + 1);
                    many++;
                }
            }
            parts[place] = many == 0 ? 0 : sum / many;
            return parts[place];
        }

        /** The bits of boxes that have come, pushed together over those that may come from the list. */
        private int placeOf(int come) {
            int free = comers();
            int place = 0;
            int bit = 1;
            for (int i = 0; i < table.boxes; i++) {
                if (has(free, i)) {
                    place |= has(come, i) ? bit : 0;
                    bit <<= 1;
                }
            }
            return place & (parts.length - 1);
        }
    }
}
