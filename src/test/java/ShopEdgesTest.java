/** Promises 1 to 9 at the edges that the document names: numbers of sorts, sizes and boxes, and every FAULT of a TEXT. */
public final class ShopEdgesTest {
    private static final String[] SIXTEEN = {"-", "a", "b", "ab", "c", "ac", "bc", "abc", "d", "ad", "bd", "abd", "cd", "acd", "bcd", "abcd"};

    public static void main(String[] args) {
        objectsAreApart();
        boxesOfEachNumberOfSorts();
        allSizes();
        unlikeOnes();
        bytesOfALong();
        anyByteAtEachPlace();
        numbersInAText();
        lettersInAText();
        eachBeginningOfAText();
        tokensSideBySide();
        sixteenInAText();
        whatReadTakesThePlaceOf();
        twoHundredBytes();
        Due.end("ShopEdgesTest");
    }

    private static NoneWithin typed(String text) {
        NoneWithin x = new NoneWithin();
        Due.write(x, text);
        return x;
    }

    private static void read(String text, int boxes) {
        Due.due("read() of '" + text + "'", typed(text).read(), boxes);
    }

    private static void fault(String text, int place) {
        read(text, -10 - place);
    }

    private static void objectsAreApart() {
        NoneWithin x = States.full();
        x.several(0, 9);
        x.sorts(0);
        NoneWithin y = new NoneWithin();
        for (int sort = 0; sort < 8; sort++) {
            Due.due("new: several(" + sort + ")", y.several(sort, 0), 0);
        }
        Due.due("new: digest()", y.digest(), new NoneWithin().digest());
        Due.due("new: status(0)", y.status(0), 0);
        Due.due("new: from(0)", y.from(0), -3);
        Due.due("new: things(0)", y.things(0), 1);
        Due.due("new: read() of the empty TEXT", y.read(), -10);
        Due.due("the other one's boxes", x.count(1), 16);
    }

    private static void boxesOfEachNumberOfSorts() {
        for (int n = 1; n <= 8; n++) {
            NoneWithin x = new NoneWithin();
            x.sorts(n);
            int most = (1 << n) - 1;
            Due.due("n " + n + ": the empty box", x.box(0, 0), 0);
            Due.due("n " + n + ": the box of all sorts", x.box(most, 99), 1);
            Due.bad(x, "n " + n + ": box(" + (most + 1) + ", 0)", y -> y.box(most + 1, 0));
            Due.bad(x, "n " + n + ": box(-1, 0)", y -> y.box(-1, 0));
            Due.due("n " + n + ": told(0, 0)", x.told(0, 0), 0);
            Due.due("n " + n + ": told(0, 1)", x.told(0, 1), 0);
            Due.due("n " + n + ": told(1, 0)", x.told(1, 0), most);
            Due.due("n " + n + ": told(1, 1)", x.told(1, 1), 99);
            for (int m = 1; m <= 8; m++) {
                NoneWithin z = new NoneWithin();
                z.sorts(n);
                z.box(1, 1);
                Due.due("sorts(" + m + ") where there were " + n, z.sorts(m), n);
                Due.due("sorts(" + m + "): count(0)", z.count(0), m);
                Due.due("sorts(" + m + "): THE LIST is empty", z.count(1), 0);
            }
        }
    }

    private static void allSizes() {
        for (int low = -1; low <= 9; low++) {
            for (int high = -1; high <= 9; high++) {
                NoneWithin x = new NoneWithin();
                x.sorts(1);
                x.sizes(3, 5);
                boolean told = 0 <= low && low <= high && high <= 8;
                String call = "sizes(" + low + ", " + high + ")";
                Due.due(call, x.sizes(low, high), told ? 1 : -2);
                Due.due(call + ", count(3)", x.count(3), told ? low : 3);
                Due.due(call + ", count(4)", x.count(4), told ? high : 5);
                Due.due(call + ", status(0)", x.status(0), told ? 0 : 1);
            }
        }
    }

    /** A box is there by its sorts, whatever its worth, until it goes. */
    private static void unlikeOnes() {
        NoneWithin x = new NoneWithin();
        x.sizes(4, 4);
        for (int i = 0; i < 16; i++) {
            int set = 15 - i;
            Due.due("box(" + set + ", 7)", x.box(set, 7), i);
            Due.bad(x, "box(" + set + ", 8), there", y -> y.box(set, 8));
            Due.bad(x, "box(15, 8), there", y -> y.box(15, 8));
        }
        for (int i = 15; i >= 0; i--) {
            Due.due("pop()", x.pop(), 15 - i);
            Due.due("box " + i + " again", x.box(15 - i, 9), i);
            Due.due("pop() again", x.pop(), 15 - i);
            Due.due("count(1)", x.count(1), i);
        }
        x.box(5, 1);
        x.sorts(4);
        Due.due("box(5, 2) behind sorts", x.box(5, 2), 0);
        Due.due("told(0, 1)", x.told(0, 1), 2);
    }

    private static void bytesOfALong() {
        // "sorts 6;" whole, and its bytes by parts with others above them that do not come.
        NoneWithin x = new NoneWithin();
        Due.due("type of 8", x.type(0x736f72747320363bL, 8), 8);
        Due.due("read()", x.read(), 0);
        Due.due("count(0)", x.count(0), 6);
        for (int n = 1; n <= 7; n++) {
            NoneWithin y = new NoneWithin();
            long v = 0x736f72747320363bL;
            Due.due("type of the first " + n, y.type(-1L << (8 * n) | v >>> (64 - 8 * n), n), n);
            Due.due("type of the last " + (8 - n), y.type(v, 8 - n), 8);
            Due.due("read() of both", y.read(), 0);
            Due.due("count(0)", y.count(0), 6);
        }
        for (int v = 0; v < 256; v++) {
            NoneWithin y = new NoneWithin();
            Due.due("type(" + v + ", 1)", y.type(v, 1), 1);
            Due.due("type(" + v + " less 256, 1)", y.type(v - 256, 1), 2);
            Due.due("read() of byte " + v, y.read(), v == 32 ? -12 : -10);
            Due.due("clear()", y.clear(), 2);
            Due.due("clear() again", y.clear(), 0);
        }
    }

    private static void anyByteAtEachPlace() {
        for (char c = 0; c < 256; c++) {
            boolean figure = '0' <= c && c <= '9';
            boolean letter = 'a' <= c && c <= 'z';
            read(c + "sorts 4;", c == ' ' ? 0 : -10);
            read("sorts" + c + "4;", c == ' ' || c == '0' ? 0 : letter ? -10 : -15);
            read("sorts " + c + ";", '1' <= c && c <= '8' ? 0 : c == ' ' ? -17 : -16);
            read("sorts 4" + c, c == ';' ? 0 : c == ' ' ? -18 : figure ? -16 : -17);
            read("sorts 4;" + c, c == ' ' ? 0 : -18);
            read("sorts 4;box " + c + " 1;", 'a' <= c && c <= 'd' || c == '-' ? 1 : c == ' ' ? -24 : -22);
            read("sorts 4;box a " + c + ";", figure ? 1 : c == ' ' ? -25 : -24);
            read("sorts 4;box a 1" + c, c == ';' ? 1 : c == ' ' || figure ? -26 : -25);
            read("sorts 4;sizes " + c + " 8;", '0' <= c && c <= '8' ? 0 : c == ' ' ? -27 : -24);
            read("sorts 4;sizes 3 " + c + ";", '3' <= c && c <= '8' ? 0 : c == ' ' ? -27 : -26);
            read("sorts 4;sizes 3 4" + c, c == ';' ? 0 : c == ' ' ? -28 : figure ? -26 : -27);
        }
    }

    private static void numbersInAText() {
        String[] forms = {"%d", "%02d", "%03d"};
        for (int v = 0; v <= 120; v++) {
            for (String form : forms) {
                String number = String.format(form, v);
                boolean two = number.length() <= 2;
                read("sorts " + number + ";", two && 1 <= v && v <= 8 ? 0 : -16);
                read("sorts 4;sizes " + number + " 8;", two && v <= 8 ? 0 : -24);
                read("sorts 4;sizes 0 " + number + ";", two && v <= 8 ? 0 : -26);
                read("sorts 4;sizes 5 " + number + ";", two && 5 <= v && v <= 8 ? 0 : -26);
                read("sorts 4;sizes 8 " + number + ";", two && v == 8 ? 0 : -26);
                read("sorts 4;box a " + number + ";", two ? 1 : -24);
                if (two) {
                    Due.due("WORTH of " + number, Due.shop("sorts 4;box a " + number + ";").told(0, 1), v);
                }
            }
        }
        // No figure of a long number is read as one of its own.
        fault("sorts 4;box a 99999999999999999999999999999999999;", 14);
        fault("sorts 4294967297;", 6);
        fault("sorts 4;box a 0000000000000000000000000000000000001;", 14);
        fault("sorts 4;sizes 4294967296 8;", 14);
        fault("sorts 4;box a 1 0;", 16);
        fault("sorts 4;box a -1;", 14);
        fault("sorts -4;", 6);
    }

    private static String letters(int set) {
        StringBuilder b = new StringBuilder();
        for (int sort = 0; sort < 26; sort++) {
            if ((set >> sort & 1) == 1) {
                b.append((char) ('a' + sort));
            }
        }
        return set == 0 ? "-" : b.toString();
    }

    private static void lettersInAText() {
        for (int n = 1; n <= 8; n++) {
            for (int set = 0; set < 512; set++) {
                NoneWithin x = typed("sorts " + n + ";box " + letters(set) + " 1;");
                Due.due("n " + n + ": read() of " + letters(set), x.read(), set < 1 << n ? 1 : -22);
                if (set < 1 << n) {
                    Due.due("n " + n + ": told(0, 0) of " + letters(set), x.told(0, 0), set);
                }
            }
            fault("sorts " + n + ";box z 1;", 12);
            fault("sorts " + n + ";box aa 1;", 12);
        }
        fault("sorts 8;box abcdefghh 1;", 12);
        fault("sorts 8;box abcdefghi 1;", 12);
        fault("sorts 8;box hg 1;", 12);
        fault("sorts 8;box abdc 1;", 12);
        fault("sorts 8;box aba 1;", 12);
        fault("sorts 8;box -a 1;", 13);
        fault("sorts 8;box a- 1;", 13);
        fault("sorts 8;box - - 1;", 14);
        fault("sorts 8;box box 1;", 12);
        fault("sorts 8;box sorts 1;", 12);
        // A sort that is none at all is not taken for one by a shift of its bits.
        fault("sorts 8;box i 1;", 12);
        fault("sorts 8;box abcdefgi 1;", 12);
        fault("sorts 1;box b 1;", 12);
        // One that is there: by its sorts, whatever its WORTH, the empty one, too.
        fault("sorts 8;box ah 1;box h 2;box ah 3;", 29);
        fault("sorts 8;box - 1;box a 2;box - 1;", 28);
    }

    /** A beginning that ends within a word has that word as its FAULT, else its length. */
    private static void eachBeginningOfAText() {
        String text = "sorts 3;sizes 1 2 ; box ab 15; box - 0;";
        int[] begins = {0, 8, 20, 31};
        int[] ends = {5, 13, 23, 34};
        for (int length = 0; length < text.length(); length++) {
            int place = length;
            for (int word = 0; word < begins.length; word++) {
                place = begins[word] < length && length < ends[word] ? begins[word] : place;
            }
            boolean whole = length == 8 || length == 19 || length == 20 || length == 30 || length == 31;
            read(text.substring(0, length), whole ? length / 30 : -10 - place);
        }
        read(text, 2);
        read(text + "   ", 2);
    }

    private static void tokensSideBySide() {
        read("sorts4;sizes1 2;box-1;box ab2;", 2);
        read("   sorts   4   ;   sizes   1   2   ;   box   ab   3   ;   ", 1);
        fault("sorts4;sizes12;", 12);
        fault("sorts 4;boxa 1;", 8);
        fault("sorts 4;box a b 1;", 14);
        fault("sor ts 4;", 0);
        fault("sorts 4;box a 1;;", 16);
        fault("sorts 4;;", 8);
        fault(";", 0);
        fault("sorts;", 5);
        fault("sorts ;", 6);
        fault("sorts 4 box a 1;", 8);
        fault("sorts 4;box;", 11);
        fault("sorts 4;box a;", 13);
        fault("sorts 4;sizes;", 13);
        fault("sorts 4;sizes 1;", 15);
        fault("sorts 4;sizes 1 2 3;", 18);
        fault("sorts 4;sizes a 2;", 14);
        fault("sorts 4;sizes 1 -;", 16);
        // Sorts is told once, and first of all.
        fault("sorts 4;sorts 4;", 8);
        fault("sorts 4;box a 1;sorts 4;", 16);
        fault("sizes 1 2;sorts 4;", 0);
        fault("box a 1;sorts 4;", 0);
        fault("  -", 2);
        fault("  4", 2);
        // The first FAULT is told, not a later one.
        fault("sorts 4;box e 1;box f 1;;", 12);
        fault("sorts 9;box a 100;", 6);
    }

    private static String sixteen(String sorts) {
        StringBuilder b = new StringBuilder(sorts);
        for (String letters : SIXTEEN) {
            b.append("box ").append(letters).append(" 1;");
        }
        return b.toString();
    }

    private static void sixteenInAText() {
        String text = sixteen("sorts 5;");
        int length = text.length();
        read(text, 16);
        // A 17th is a FAULT at its word, whatever is behind it.
        fault(text + "box", length);
        fault(text + "box e 1;", length);
        fault(text + "  box a 1;", length + 2);
        fault(text + "box z 100", length);
        fault(text + "boxes", length);
        read(text + "sizes 1 2;", 16);
        fault(text + "sizes 1 2;box", length + 10);
        // The 16 of the LIST that is there do not count.
        NoneWithin x = States.full();
        Due.write(x, text);
        Due.due("read() of 16 where there are 16", x.read(), 16);
        Due.due("told(15, 0)", x.told(15, 0), 15);
        Due.full(x, "box(16, 0) behind it", y -> y.box(16, 0));
    }

    private static void whatReadTakesThePlaceOf() {
        NoneWithin x = States.full();
        x.sizes(2, 3);
        x.several(3, 7);
        Due.write(x, "sorts 1;");
        long above = x.part(0);
        long below = x.part(1);
        Due.due("read() of no box", x.read(), 0);
        int[] want = {1, 0, 8, 0, 8};
        for (int what = 0; what < 5; what++) {
            Due.due("read: count(" + what + ")", x.count(what), want[what]);
        }
        Due.due("read: several stays", x.several(3, 7), 7);
        Due.due("read: part(0) stays", x.part(0), above);
        Due.due("read: part(1) stays", x.part(1), below);
        Due.due("read() again", x.read(), 0);
        Due.due("read: image 1 stays", x.from(1), 1);
        Due.due("read: boxes of image 1", x.count(1), 16);
        // SIZES are told without regard to n, ahead of boxes or behind them, and boxes need not be of SIZES.
        x = Due.shop("sorts 1;box a 1;sizes 8 8;box - 2;");
        Due.due("LOW", x.count(3), 8);
        Due.due("HIGH", x.count(4), 8);
        Due.due("boxes", x.count(1), 2);
        x = Due.shop("sorts 1;sizes 0 0;box a 1;");
        Due.due("LOW", x.count(3), 0);
        Due.due("HIGH", x.count(4), 0);
        Due.due("told(0, 0)", x.told(0, 0), 1);
    }

    private static void twoHundredBytes() {
        String blanks = " ".repeat(200);
        String text = sixteen("sorts 5;");
        NoneWithin x = typed(text + blanks.substring(text.length()));
        Due.due("count(2)", x.count(2), 200);
        Due.due("read() of 200 bytes", x.read(), 16);
        Due.due("clear()", x.clear(), 200);
        Due.due("read() behind clear", x.read(), -10);
        Due.due("THE LIST stays", x.count(1), 16);
        fault(blanks, 200);
        fault(blanks.substring(1) + "s", 199);
        fault(blanks.substring(5) + "sorts", 200);
        fault(blanks.substring(7) + "sorts 4", 200);
        read(blanks.substring(8) + "sorts 4;", 0);
        // What was typed ahead of clear does not come again.
        x = typed("sorts 4;box a 1;");
        x.clear();
        Due.due("type", x.type(0x736f72747320363bL, 8), 8);
        Due.due("read() of the shorter TEXT", x.read(), 0);
    }
}
