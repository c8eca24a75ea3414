import java.math.BigInteger;
import java.util.ArrayList;
import java.util.Arrays;
import java.util.HashMap;
import java.util.HashSet;
import java.util.List;
import java.util.Map;
import java.util.Set;
import java.util.regex.Matcher;
import java.util.regex.Pattern;

/** The document again, by brute force and with the Java library, to compare the class with. */
final class Model {
    private static final Pattern TOKEN = Pattern.compile("[a-z]+|[0-9]+|-|;");

    private static final class State {
        int n = 4;
        int low = 0;
        int high = 8;
        List<Integer> sets = new ArrayList<>();
        List<Integer> worths = new ArrayList<>();
        int[] alike = new int[8];

        State copy() {
            State c = new State();
            c.n = n;
            c.low = low;
            c.high = high;
            c.sets = new ArrayList<>(sets);
            c.worths = new ArrayList<>(worths);
            c.alike = alike.clone();
            return c;
        }
    }

    private State s = new State();
    private final State[] images = new State[2];
    private final StringBuilder text = new StringBuilder();
    private BigInteger above = BigInteger.ZERO;
    private BigInteger below = BigInteger.ONE;
    private final int[] refused = new int[3];

    private int bad(int answer) {
        refused[0]++;
        return answer;
    }

    private int no(int answer) {
        refused[1]++;
        return answer;
    }

    private int full() {
        refused[2]++;
        return -4;
    }

    private static boolean in(int v, int low, int high) {
        return low <= v && v <= high;
    }

    private boolean isBox(int set) {
        return in(set, 0, (1 << s.n) - 1);
    }

    int sorts(int n) {
        if (!in(n, 1, 8)) {
            return bad(-2);
        }
        int was = s.n;
        s.n = n;
        s.sets.clear();
        s.worths.clear();
        return was;
    }

    int sizes(int low, int high) {
        if (!in(low, 0, 8) || !in(high, 0, 8) || low > high) {
            return bad(-2);
        }
        s.low = low;
        s.high = high;
        return 1;
    }

    int box(int set, int worth) {
        if (!isBox(set) || !in(worth, 0, 99) || s.sets.contains(set)) {
            return bad(-2);
        }
        if (s.sets.size() == 16) {
            return full();
        }
        s.sets.add(set);
        s.worths.add(worth);
        return s.sets.size() - 1;
    }

    int pop() {
        int size = s.sets.size();
        if (size == 0) {
            return no(-3);
        }
        s.worths.remove(size - 1);
        return s.sets.remove(size - 1);
    }

    int told(int i, int what) {
        if (!in(i, 0, s.sets.size() - 1) || !in(what, 0, 1)) {
            return bad(-2);
        }
        return (what == 0 ? s.sets : s.worths).get(i);
    }

    int type(long v, int n) {
        if (!in(n, 1, 8)) {
            return bad(-2);
        }
        if (text.length() + n > 200) {
            return full();
        }
        String all = String.format("%016x", v);
        String hex = all.substring(16 - 2 * n);
        for (int i = 0; i < hex.length(); i += 2) {
            text.append((char) Integer.parseInt(hex.substring(i, i + 2), 16));
        }
        return text.length();
    }

    int clear() {
        int had = text.length();
        text.setLength(0);
        return had;
    }

    int read() {
        State to = new State();
        to.alike = s.alike;
        int fault = parse(text.toString(), to);
        if (fault >= 0) {
            return -10 - fault;
        }
        s = to;
        return s.sets.size();
    }

    private static int parse(String t, State to) {
        List<String> tokens = new ArrayList<>();
        List<Integer> places = new ArrayList<>();
        Matcher m = TOKEN.matcher(t);
        int at = 0;
        while (true) {
            while (at < t.length() && t.charAt(at) == ' ') {
                at++;
            }
            places.add(at);
            if (at == t.length()) {
                tokens.add("end");
                break;
            }
            if (!m.find(at) || m.start() != at) {
                tokens.add("?");
                break;
            }
            // "end" is no word of the shop either, so it may not pass for the text's end.
            tokens.add(m.group().equals("end") ? "?" : m.group());
            at = m.end();
        }
        String state = "first";
        int low = 0;
        int set = 0;
        for (int i = 0; i < tokens.size(); i++) {
            String w = tokens.get(i);
            int fault = places.get(i);
            int v = w.matches("[0-9]{1,2}") ? Integer.parseInt(w) : -1;
            switch (state) {
                case "first":
                    if (!w.equals("sorts")) return fault;
                    state = "n";
                    break;
                case "n":
                    if (!in(v, 1, 8)) return fault;
                    to.n = v;
                    state = ";";
                    break;
                case ";":
                    if (!w.equals(";")) return fault;
                    state = "item";
                    break;
                case "item":
                    if (w.equals("end")) return -1;
                    if (w.equals("box") && to.sets.size() < 16) state = "letters";
                    else if (w.equals("sizes")) state = "low";
                    else return fault;
                    break;
                case "low":
                    if (!in(v, 0, 8)) return fault;
                    low = v;
                    state = "high";
                    break;
                case "high":
                    if (!in(v, low, 8)) return fault;
                    to.low = low;
                    to.high = v;
                    state = ";";
                    break;
                case "letters":
                    set = letters(w, to.n);
                    if (set < 0 || to.sets.contains(set)) return fault;
                    state = "worth";
                    break;
                default:
                    if (v < 0) return fault;
                    to.sets.add(set);
                    to.worths.add(v);
                    state = ";";
            }
        }
        throw new IllegalStateException(t);
    }

    private static int letters(String w, int n) {
        if (w.equals("-")) {
            return 0;
        }
        for (int set = 1; set < 1 << n; set++) {
            StringBuilder b = new StringBuilder();
            for (int k = 0; k < n; k++) {
                if ((set >> k & 1) == 1) {
                    b.append((char) ('a' + k));
                }
            }
            if (b.toString().equals(w)) {
                return set;
            }
        }
        return -1;
    }

    private static boolean within(int a, int b) {
        return (a | b) == b && a != b;
    }

    private boolean breaks(int law, int a) {
        int size = Integer.bitCount(a);
        return size < s.low || size > s.high || law >= 3 && a == 0;
    }

    private boolean breaks(int law, int a, int b) {
        boolean nested = within(a, b) || within(b, a);
        return (law == 1 || law == 4) && nested || (law == 3 || law == 4) && (a & b) == 0;
    }

    private boolean breaks(int law, int a, int b, int c) {
        int[][] orders = {{a, b, c}, {a, c, b}, {b, a, c}, {b, c, a}, {c, a, b}, {c, b, a}};
        for (int[] o : orders) {
            if (law == 2 && within(o[0], o[1]) && within(o[1], o[2])) {
                return true;
            }
        }
        return false;
    }

    private int[] firstBreak(int law, List<Integer> list) {
        int size = list.size();
        for (int i = 0; i < size; i++) {
            if (breaks(law, list.get(i))) return new int[] {i};
        }
        for (int i = 0; i < size; i++) {
            for (int j = i + 1; j < size; j++) {
                if (breaks(law, list.get(i), list.get(j))) return new int[] {i, j};
            }
        }
        if (law != 2) {
            return null;
        }
        for (int i = 0; i < size; i++) {
            for (int j = i + 1; j < size; j++) {
                for (int k = j + 1; k < size; k++) {
                    if (breaks(law, list.get(i), list.get(j), list.get(k))) return new int[] {i, j, k};
                }
            }
        }
        return null;
    }

    private boolean lawful(int law, List<Integer> list) {
        return firstBreak(law, list) == null;
    }

    int judge(int law, int what) {
        if (!in(law, 0, 4) || !in(what, 0, 1)) {
            return bad(-2);
        }
        int[] first = firstBreak(law, s.sets);
        if (first == null) {
            return -1;
        }
        int number = 0;
        for (int i : first) {
            number = 100 * number + i;
        }
        return what == 0 ? number : first.length;
    }

    private static BigInteger choose(int n, int k) {
        BigInteger[] line = new BigInteger[n + 1];
        Arrays.fill(line, BigInteger.ZERO);
        line[0] = BigInteger.ONE;
        for (int i = 0; i < n; i++) {
            for (int j = n; j > 0; j--) {
                line[j] = line[j].add(line[j - 1]);
            }
        }
        return line[k];
    }

    private void fraction(BigInteger a, BigInteger b) {
        BigInteger g = a.gcd(b);
        above = a.divide(g);
        below = b.divide(g);
    }

    int fullness() {
        BigInteger a = BigInteger.ZERO;
        BigInteger b = BigInteger.ONE;
        for (int set : s.sets) {
            BigInteger c = choose(s.n, Integer.bitCount(set));
            a = a.multiply(c).add(b);
            b = b.multiply(c);
        }
        fraction(a, b);
        return 1;
    }

    private static List<Integer> chosen(List<Integer> list, int bits) {
        List<Integer> found = new ArrayList<>();
        for (int i = 0; i < list.size(); i++) {
            if ((bits >> i & 1) == 1) {
                found.add(list.get(i));
            }
        }
        return found;
    }

    int kept(int law, int wishes, int what) {
        if (!in(law, 0, 4) || !in(wishes, 0, (1 << s.sets.size()) - 1) || !in(what, 0, 3)) {
            return bad(-2);
        }
        int best = -1;
        int which = -1;
        for (int bits = 0; bits < 1 << s.sets.size(); bits++) {
            int v = Integer.bitCount(bits);
            if (what >= 2) {
                v = 0;
                for (int w : chosen(s.worths, bits)) {
                    v += w;
                }
            }
            if ((bits & wishes) == wishes && v > best && lawful(law, chosen(s.sets, bits))) {
                best = v;
                which = bits;
            }
        }
        return what % 2 == 0 ? best : which;
    }

    int rows(int what) {
        if (!in(what, 0, 1)) {
            return bad(-2);
        }
        if (what == 1) {
            int longest = 0;
            for (int set : s.sets) {
                longest = Math.max(longest, chain(set));
            }
            return longest;
        }
        int[] next = new int[s.sets.size()];
        Arrays.fill(next, -1);
        int rows = s.sets.size();
        for (int i = 0; i < s.sets.size(); i++) {
            if (match(i, next, new HashSet<>())) {
                rows--;
            }
        }
        return rows;
    }

    private int chain(int set) {
        int longest = 0;
        for (int other : s.sets) {
            if (within(set, other)) {
                longest = Math.max(longest, chain(other));
            }
        }
        return longest + 1;
    }

    private boolean match(int i, int[] next, Set<Integer> seen) {
        for (int j = 0; j < next.length; j++) {
            if (within(s.sets.get(i), s.sets.get(j)) && seen.add(j) && (next[j] < 0 || match(next[j], next, seen))) {
                next[j] = i;
                return true;
            }
        }
        return false;
    }

    int opens(int set, int what) {
        if (!isBox(set) || !in(what, 0, 1)) {
            return bad(-2);
        }
        int best = -1;
        for (int bits = 0; bits < 1 << s.sets.size(); bits++) {
            int all = 0;
            for (int one : chosen(s.sets, bits)) {
                all |= one;
            }
            if ((all & set) == set && (best < 0 || Integer.bitCount(bits) < Integer.bitCount(best))) {
                best = bits;
            }
        }
        return best < 0 ? -1 : what == 0 ? Integer.bitCount(best) : best;
    }

    int alone() {
        int found = 0;
        for (int i = 0; i < s.sets.size(); i++) {
            int others = 0;
            for (int j = 0; j < s.sets.size(); j++) {
                others |= i == j ? 0 : s.sets.get(j);
            }
            found |= (s.sets.get(i) & ~others) == 0 ? 0 : 1 << i;
        }
        return found;
    }

    /** The brackets with all matched ones made < and >, by striking out pairs until none is left. */
    private String brackets(int set) {
        StringBuilder b = new StringBuilder();
        for (int k = 0; k < s.n; k++) {
            b.append((set >> k & 1) == 1 ? ')' : '(');
        }
        Pattern pair = Pattern.compile("\\(([<>]*)\\)");
        String t = b.toString();
        while (pair.matcher(t).find()) {
            t = pair.matcher(t).replaceFirst("<$1>");
        }
        return t;
    }

    int row(int set, int what) {
        if (!isBox(set) || !in(what, 0, 3)) {
            return bad(-10);
        }
        List<Integer> all = new ArrayList<>();
        String shape = brackets(set).replace(')', '.').replace('(', '.');
        for (int other = 0; other < 1 << s.n; other++) {
            if (brackets(other).replace(')', '.').replace('(', '.').equals(shape)) {
                all.add(other);
            }
        }
        if (what == 1) return all.get(0);
        if (what == 3) return all.size();
        for (int other : all) {
            int size = Integer.bitCount(other);
            if (size == (what == 0 ? Integer.bitCount(set) + 1 : s.n / 2)) {
                return other;
            }
        }
        return -1;
    }

    int more(int law) {
        if (!in(law, 0, 4)) {
            return bad(-2);
        }
        if (!lawful(law, s.sets)) {
            return -1;
        }
        for (int set = 0; set < 1 << s.n; set++) {
            List<Integer> with = new ArrayList<>(s.sets);
            with.add(set);
            if (!s.sets.contains(set) && lawful(law, with)) {
                return set;
            }
        }
        return -1;
    }

    private List<Integer> boxesOf(int bits) {
        List<Integer> found = new ArrayList<>();
        for (int set = 0; set < 16; set++) {
            if ((bits >> set & 1) == 1) {
                found.add(set);
            }
        }
        return found;
    }

    private boolean[] allLawful(int law) {
        boolean[] found = new boolean[1 << (1 << s.n)];
        for (int bits = 0; bits < found.length; bits++) {
            int low = bits & -bits;
            found[bits] = (bits == 0 || found[bits ^ low]) && lawful(law, boxesOf(bits));
        }
        return found;
    }

    int lists(int law, int what) {
        if (!in(law, 0, 4) || !in(what, 0, 3)) {
            return bad(-2);
        }
        if (s.n > 4) {
            return no(-3);
        }
        boolean[] ok = allLawful(law);
        int[] told = {0, 0, 99, 0};
        for (int bits = 0; bits < ok.length; bits++) {
            boolean whole = ok[bits];
            for (int b = 0; b < 1 << s.n; b++) {
                whole &= (bits >> b & 1) == 1 || !ok[bits | 1 << b];
            }
            told[0] += ok[bits] ? 1 : 0;
            if (whole) {
                told[1]++;
                told[2] = Math.min(told[2], Integer.bitCount(bits));
                told[3] = Math.max(told[3], Integer.bitCount(bits));
            }
        }
        return told[what];
    }

    private int listBits() {
        int bits = 0;
        for (int set : s.sets) {
            bits |= 1 << set;
        }
        return bits;
    }

    int game(int law, int what) {
        if (!in(law, 0, 4) || !in(what, 0, 1)) {
            return bad(-10);
        }
        if (s.n > 4 || !lawful(law, s.sets)) {
            return no(-20);
        }
        boolean[] ok = allLawful(law);
        boolean[] wins = new boolean[ok.length];
        int least = -1;
        for (int bits = ok.length - 1; bits >= 0; bits--) {
            for (int b = (1 << s.n) - 1; b >= 0; b--) {
                int with = bits | 1 << b;
                if (with != bits && ok[with] && !wins[with]) {
                    wins[bits] = true;
                    least = bits == listBits() ? b : least;
                }
            }
        }
        return what == 0 ? (wins[listBits()] ? 1 : 0) : least;
    }

    private BigInteger[] odds(int law, List<Integer> list, Map<Set<Integer>, BigInteger[]> seen) {
        Set<Integer> key = new HashSet<>(list);
        if (seen.containsKey(key)) {
            return seen.get(key);
        }
        BigInteger a = BigInteger.ZERO;
        BigInteger b = BigInteger.ONE;
        int many = 0;
        for (int next : comers(law, list)) {
            List<Integer> with = new ArrayList<>(list);
            with.add(next);
            BigInteger[] then = odds(law, with, seen);
            a = a.multiply(then[1]).add(then[1].subtract(then[0]).multiply(b));
            b = b.multiply(then[1]);
            many++;
        }
        b = b.multiply(BigInteger.valueOf(Math.max(1, many)));
        BigInteger g = a.gcd(b);
        BigInteger[] found = {a.divide(g), b.divide(g)};
        seen.put(key, found);
        return found;
    }

    private List<Integer> comers(int law, List<Integer> list) {
        List<Integer> found = new ArrayList<>();
        for (int set = 0; set < 1 << s.n; set++) {
            List<Integer> with = new ArrayList<>(list);
            with.add(set);
            if (!list.contains(set) && lawful(law, with)) {
                found.add(set);
            }
        }
        return found;
    }

    int chance(int law) {
        if (!in(law, 0, 4)) {
            return bad(-2);
        }
        if (s.n > 4 || !lawful(law, s.sets) || comers(law, s.sets).size() > 8) {
            return no(-3);
        }
        BigInteger[] found = odds(law, s.sets, new HashMap<>());
        fraction(found[0], found[1]);
        return 1;
    }

    long greatest(int n) {
        return in(n, 0, 60) ? choose(n, n / 2).longValueExact() : bad(-2);
    }

    long shared(int n, int k) {
        return in(k, 1, 30) && in(n, 2 * k, 60) ? choose(n - 1, k - 1).longValueExact() : bad(-2);
    }

    int several(int sort, int m) {
        if (!in(sort, 0, 7) || !in(m, 0, 9)) {
            return bad(-2);
        }
        int was = s.alike[sort];
        s.alike[sort] = m;
        return was;
    }

    private long ways(int sort, int left, Map<Integer, Long> seen) {
        if (sort == 8) {
            return left == 0 ? 1 : 0;
        }
        int key = 100 * sort + left;
        if (!seen.containsKey(key)) {
            long found = 0;
            for (int t = 0; t <= Math.min(left, s.alike[sort]); t++) {
                found += ways(sort + 1, left - t, seen);
            }
            seen.put(key, found);
        }
        return seen.get(key);
    }

    long things(int many) {
        return in(many, 0, 72) ? ways(0, many, new HashMap<>()) : bad(-2);
    }

    int middle(int what) {
        if (!in(what, 0, 1)) {
            return bad(-2);
        }
        int total = 0;
        for (int m : s.alike) {
            total += m;
        }
        return what == 1 ? total : firstGreatest(total);
    }

    private int firstGreatest(int total) {
        int best = 0;
        long most = 1;
        for (int many = 1; many <= total; many++) {
            long found = ways(0, many, new HashMap<>());
            if (found > most) {
                most = found;
                best = many;
            }
        }
        return best;
    }

    long part(int what) {
        return what == 0 ? above.longValueExact() : what == 1 ? below.longValueExact() : bad(-2);
    }

    int image(int i) {
        if (!in(i, 0, 1)) {
            return bad(-2);
        }
        images[i] = s.copy();
        return 1;
    }

    int from(int i) {
        if (!in(i, 0, 1)) {
            return bad(-2);
        }
        if (images[i] == null) {
            return no(-3);
        }
        s = images[i].copy();
        return 1;
    }

    int status(int what) {
        return in(what, 0, 2) ? refused[what] : bad(-1);
    }

    int count(int what) {
        int[] all = {s.n, s.sets.size(), text.length(), s.low, s.high};
        return in(what, 0, 4) ? all[what] : bad(-2);
    }

    long digest() {
        List<Long> all = new ArrayList<>();
        for (int what = 0; what < 5; what++) {
            all.add((long) count(what));
        }
        for (int i = 0; i < s.sets.size(); i++) {
            all.add((long) s.sets.get(i));
            all.add((long) s.worths.get(i));
        }
        for (int m : s.alike) {
            all.add((long) m);
        }
        all.add(above.longValueExact());
        all.add(below.longValueExact());
        long h = 659;
        for (long v : all) {
            h = 31 * h + v;
        }
        return h;
    }
}
