/** Promises 1 to 9: a new object, sorts, sizes, box, pop, told, type, clear, read. */
public final class ShopsTest {
    public static void main(String[] args) {
        newObject();
        sorts();
        sizes();
        box();
        popAndTold();
        typeAndClear();
        readShops();
        readFaults();
        seventeenthBox();
        faultLeavesAll();
        longestText();
        Due.end("ShopsTest");
    }

    private static void newObject() {
        NoneWithin x = new NoneWithin();
        int[] first = {4, 0, 0, 0, 8};
        for (int what = 0; what < 5; what++) {
            Due.due("new: count(" + what + ")", x.count(what), first[what]);
        }
        for (int what = 0; what < 3; what++) {
            Due.due("new: status(" + what + ")", x.status(what), 0);
        }
        Due.due("new: part(0)", x.part(0), 0);
        Due.due("new: part(1)", x.part(1), 1);
        Due.due("new: middle(1)", x.middle(1), 0);
        Due.no(x, "new: from(0)", y -> y.from(0));
        Due.no(x, "new: from(1)", y -> y.from(1));
        Due.due("NONE", NoneWithin.NONE, -1);
        Due.due("BAD", NoneWithin.BAD, -2);
        Due.due("NO", NoneWithin.NO, -3);
        Due.due("FULL", NoneWithin.FULL, -4);
    }

    private static void sorts() {
        NoneWithin x = new NoneWithin();
        x.sizes(1, 3);
        x.several(2, 5);
        x.box(3, 7);
        Due.bad(x, "sorts(0)", y -> y.sorts(0));
        Due.bad(x, "sorts(9)", y -> y.sorts(9));
        Due.bad(x, "sorts(-1)", y -> y.sorts(-1));
        Due.due("sorts(8)", x.sorts(8), 4);
        Due.due("sorts: no box is left", x.count(1), 0);
        Due.due("sorts: LOW stays", x.count(3), 1);
        Due.due("sorts: HIGH stays", x.count(4), 3);
        Due.due("sorts: several stays", x.several(2, 5), 5);
        Due.due("box(255, 0)", x.box(255, 0), 0);
        Due.due("sorts(8) again", x.sorts(8), 8);
        Due.due("sorts again: no box is left", x.count(1), 0);
        Due.due("sorts(1)", x.sorts(1), 8);
        Due.bad(x, "box(2, 0) of one sort", y -> y.box(2, 0));
    }

    private static void sizes() {
        NoneWithin x = new NoneWithin();
        Due.due("sizes(2, 5)", x.sizes(2, 5), 1);
        Due.due("LOW", x.count(3), 2);
        Due.due("HIGH", x.count(4), 5);
        Due.bad(x, "sizes(-1, 5)", y -> y.sizes(-1, 5));
        Due.bad(x, "sizes(3, 2)", y -> y.sizes(3, 2));
        Due.bad(x, "sizes(0, 9)", y -> y.sizes(0, 9));
        Due.bad(x, "sizes(9, 9)", y -> y.sizes(9, 9));
        Due.due("sizes(8, 8) of 4 sorts", x.sizes(8, 8), 1);
        Due.due("sizes(0, 0)", x.sizes(0, 0), 1);
        Due.due("LOW", x.count(3), 0);
        Due.due("HIGH", x.count(4), 0);
    }

    private static void box() {
        NoneWithin x = new NoneWithin();
        x.sizes(2, 2);
        Due.due("box(0, 0) not of SIZES", x.box(0, 0), 0);
        Due.due("box(15, 99)", x.box(15, 99), 1);
        Due.bad(x, "box(16, 0)", y -> y.box(16, 0));
        Due.bad(x, "box(-1, 0)", y -> y.box(-1, 0));
        Due.bad(x, "box(1, 100)", y -> y.box(1, 100));
        Due.bad(x, "box(1, -1)", y -> y.box(1, -1));
        Due.bad(x, "box(15, 1) there", y -> y.box(15, 1));
        x.sorts(5);
        for (int i = 0; i < 16; i++) {
            Due.due("box " + i, x.box(31 - i, i), i);
        }
        Due.full(x, "box(0, 0), a 17th", y -> y.box(0, 0));
        Due.bad(x, "box(31, 0), there and a 17th", y -> y.box(31, 0));
        Due.bad(x, "box(0, 100), a 17th", y -> y.box(0, 100));
        Due.due("pop()", x.pop(), 16);
        Due.due("box(0, 0)", x.box(0, 0), 15);
    }

    private static void popAndTold() {
        NoneWithin x = new NoneWithin();
        Due.no(x, "pop() of none", y -> y.pop());
        Due.bad(x, "told(0, 0) of none", y -> y.told(0, 0));
        x.box(6, 11);
        x.box(9, 22);
        Due.due("told(0, 0)", x.told(0, 0), 6);
        Due.due("told(0, 1)", x.told(0, 1), 11);
        Due.due("told(1, 0)", x.told(1, 0), 9);
        Due.due("told(1, 1)", x.told(1, 1), 22);
        Due.bad(x, "told(2, 0)", y -> y.told(2, 0));
        Due.bad(x, "told(-1, 0)", y -> y.told(-1, 0));
        Due.bad(x, "told(0, 2)", y -> y.told(0, 2));
        Due.bad(x, "told(0, -1)", y -> y.told(0, -1));
        Due.due("pop()", x.pop(), 9);
        Due.bad(x, "told(1, 0) behind pop", y -> y.told(1, 0));
        Due.due("box(9, 1) again", x.box(9, 1), 1);
        Due.due("told(1, 1)", x.told(1, 1), 1);
    }

    private static void typeAndClear() {
        NoneWithin x = new NoneWithin();
        Due.due("clear() of none", x.clear(), 0);
        Due.bad(x, "type(0, 0)", y -> y.type(0, 0));
        Due.bad(x, "type(0, 9)", y -> y.type(0, 9));
        for (int i = 1; i <= 24; i++) {
            Due.due("type of 8", x.type(0x2020202020202020L, 8), 8 * i);
        }
        Due.due("type of 5", x.type(-1L, 5), 197);
        Due.full(x, "type of 4 at 197", y -> y.type(0, 4));
        Due.bad(x, "type of 9 at 197", y -> y.type(0, 9));
        Due.due("type of 3 at 197", x.type(0, 3), 200);
        Due.full(x, "type of 1 at 200", y -> y.type(0, 1));
        Due.due("count(2)", x.count(2), 200);
        Due.due("read(): the byte 255 begins none", x.read(), -10 - 192);
        Due.due("clear()", x.clear(), 200);
        Due.due("count(2)", x.count(2), 0);
        // Of 'xxsorts ' the lowest six bytes, then '7;' below others.
        Due.due("type", x.type(0x7878736f72747320L, 6), 6);
        Due.due("type", x.type(0x7a373bL, 2), 8);
        Due.due("read()", x.read(), 0);
        Due.due("count(0)", x.count(0), 7);
        Due.due("count(2): the TEXT stays", x.count(2), 8);
    }

    private static void readShops() {
        NoneWithin x = Due.shop("sorts 3;sizes 1 2;box ac 05;box - 99;box b 0;");
        int[] counts = {3, 3, 45, 1, 2};
        for (int what = 0; what < 5; what++) {
            Due.due("read: count(" + what + ")", x.count(what), counts[what]);
        }
        int[] told = {5, 5, 0, 99, 2, 0};
        for (int i = 0; i < 6; i++) {
            Due.due("read: told", x.told(i / 2, i % 2), told[i]);
        }
        x.several(0, 4);
        x.fullness();
        Due.write(x, "  sorts   08  ;  ");
        Due.due("read() with blanks", x.read(), 0);
        Due.due("n", x.count(0), 8);
        Due.due("LOW as at first", x.count(3), 0);
        Due.due("HIGH as at first", x.count(4), 8);
        Due.due("several stays", x.several(0, 4), 4);
        Due.due("THE FRACTION stays", x.part(1), 3);
        Due.write(x, "sorts2;box-1;box ab2;sizes 3 4;sizes 0 1;box b3;");
        Due.due("read() without blanks, sizes twice", x.read(), 3);
        Due.due("LOW of the last", x.count(3), 0);
        Due.due("HIGH of the last", x.count(4), 1);
        Due.due("status(0)", x.status(0), 0);
        Due.write(x, "sorts 1;box a 1;");
        Due.due("read() of one sort", x.read(), 1);
        Due.due("n", x.count(0), 1);
        Due.write(x, "sorts 8;box abcdefgh 1;box h 2;");
        Due.due("read() of eight sorts", x.read(), 2);
        Due.due("told(0, 0)", x.told(0, 0), 255);
        Due.due("told(1, 0)", x.told(1, 0), 128);
    }

    private static void fault(String text, int place) {
        NoneWithin x = new NoneWithin();
        x.sorts(6);
        x.sizes(1, 7);
        x.box(33, 44);
        Due.write(x, text);
        long digest = x.digest();
        Due.due("read() of '" + text + "'", x.read(), -10 - place);
        Due.due("read() of '" + text + "', then digest()", x.digest(), digest);
        for (int what = 0; what < 3; what++) {
            Due.due("read() of '" + text + "', then status(" + what + ")", x.status(what), 0);
        }
    }

    private static void readFaults() {
        fault("", 0);
        fault("   ", 3);
        fault("sorts", 5);
        fault("sorts ", 6);
        fault("sorts 4", 7);
        fault("sorts 4 ", 8);
        fault("sort 4;", 0);
        fault(" sortss 4;", 1);
        fault("xorts 4;", 0);
        fault("sorts 4;dox a 1;", 8);
        fault("sorts 4;sizez 1 2;", 8);
        fault("box a 1;sorts 4;", 0);
        fault("sizes 1 2;", 0);
        fault(";sorts 4;", 0);
        fault("sorts 0;", 6);
        fault("sorts 9;", 6);
        fault("sorts 004;", 6);
        fault("sorts a;", 6);
        fault("sorts 4 4;", 8);
        fault("sorts 4;;", 8);
        fault("sorts 4; sorts 4;", 9);
        fault("sorts 4;boxes a 1;", 8);
        fault("sorts 4;bo", 8);
        fault("sorts 4;box", 11);
        fault("sorts 4;box ab", 14);
        fault("sorts 4;box ab 1", 16);
        fault("sorts 4;box ab 100;", 15);
        fault("sorts 4;box ab 100", 15);
        fault("sorts 4;box ab 1 2;", 17);
        fault("sorts 4;box e 1;", 12);
        fault("sorts 4;box ba 1;", 12);
        fault("sorts 4;box aa 1;", 12);
        fault("sorts 4;box a- 1;", 13);
        fault("sorts 4;box -- 1;", 13);
        fault("sorts 4;box 1 1;", 12);
        fault("sorts 4;box ; 1;", 12);
        fault("sorts 4;box a b;", 14);
        fault("sorts 4;box a -1;", 14);
        fault("sorts 4;box a ;", 14);
        fault("sorts 4;box a 1;box b 2;box a 3;", 28);
        fault("sorts 4;box - 1;box - 2;", 20);
        fault("sorts 4;sizes 9 9;", 14);
        fault("sorts 4;sizes 3 2;", 16);
        fault("sorts 4;sizes 3 9;", 16);
        fault("sorts 4;sizes 3;", 15);
        fault("sorts 4;sizes 3 4 5;", 18);
        fault("sorts 4;sizes 3", 15);
        fault("sorts 4;4;", 8);
        fault("sorts 4;-;", 8);
        fault("sorts 4;A", 8);
        fault("sorts 4;box A 1;", 12);
        fault("sorts 4;box aB 1;", 13);
        fault("sorts 4;\tbox a 1;", 8);
        fault("sorts 4;box a 1" + (char) 233, 15);
        fault("sorts 4;" + (char) 0, 8);
        fault("Sorts 4;", 0);
    }

    private static void seventeenthBox() {
        StringBuilder b = new StringBuilder("sorts 5;");
        String[] sixteen = {"-", "a", "b", "ab", "c", "ac", "bc", "abc", "d", "ad", "bd", "abd", "cd", "acd", "bcd", "abcd"};
        for (String letters : sixteen) {
            b.append("box ").append(letters).append(" 1;");
        }
        NoneWithin x = new NoneWithin();
        Due.write(x, b.toString());
        Due.due("read() of 16", x.read(), 16);
        Due.due("told(15, 0)", x.told(15, 0), 15);
        fault(b + "box e 1;", b.length());
        fault(b + "box a", b.length());
        Due.write(x, b + "sizes 1 1;");
        Due.due("read() of 16 and sizes", x.read(), 16);
    }

    private static void faultLeavesAll() {
        NoneWithin x = Due.shop("sorts 2;box a 1;");
        Due.write(x, "sorts 5;sizes 1 2;box e 1;box e 2;");
        Due.due("read() with a fault at the end", x.read(), -10 - 30);
        Due.due("n", x.count(0), 2);
        Due.due("boxes", x.count(1), 1);
        Due.due("LOW", x.count(3), 0);
        Due.due("told(0, 0)", x.told(0, 0), 1);
        Due.due("the TEXT stays", x.count(2), 34);
    }

    /** All 200 bytes are taken; what ends with them ends there. */
    private static void longestText() {
        String blanks = " ".repeat(192);
        NoneWithin x = Due.shop("sorts 4;" + blanks);
        Due.due("the TEXT's bytes", x.count(2), 200);
        fault(blanks + "sorts 40", 198);
        fault(blanks + " sorts 4", 200);
        fault(blanks.substring(5) + "sorts 4;sizes", 200);
        fault(blanks + "        ", 200);
        Due.write(x, blanks + "sorts 6;");
        Due.due("read() at the end", x.read(), 0);
        Due.due("n", x.count(0), 6);
    }
}
