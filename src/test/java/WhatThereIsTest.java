/** Promises 26 to 31: part, image, from, status, count, digest. */
public final class WhatThereIsTest {
    public static void main(String[] args) {
        part();
        images();
        twoImages();
        status();
        count();
        digest();
        Due.end("WhatThereIsTest");
    }

    private static void part() {
        NoneWithin x = Due.shop("sorts 4;box a 1;box ab 1;");
        Due.due("part(0) ahead", x.part(0), 0);
        x.fullness();
        Due.due("part(0)", x.part(0), 5);
        Due.due("part(1)", x.part(1), 12);
        Due.bad(x, "part(2)", y -> y.part(2));
        Due.bad(x, "part(-1)", y -> y.part(-1));
        x.pop();
        Due.due("part(1) stays until it is asked anew", x.part(1), 12);
        x.sorts(5);
        Due.no(x, "chance(1) of 5 sorts: THE FRACTION stays", y -> y.chance(1));
        Due.due("part(1) behind it", x.part(1), 12);
    }

    private static void images() {
        NoneWithin x = Due.shop("sorts 5;sizes 1 3;box ab 7;box e 8;");
        x.several(4, 6);
        x.fullness();
        Due.no(x, "from(0), none kept", y -> y.from(0));
        Due.due("image(0)", x.image(0), 1);
        long kept = x.digest();
        Due.no(x, "from(1), none kept", y -> y.from(1));
        x.pop();
        x.box(31, 9);
        x.box(30, 10);
        x.several(4, 1);
        x.sizes(0, 8);
        Due.due("from(0)", x.from(0), 1);
        Due.due("digest()", x.digest(), kept);
        Due.due("told(1, 0)", x.told(1, 0), 16);
        x.sorts(2);
        x.clear();
        x.several(0, 1);
        x.fullness();
        Due.due("from(0) again", x.from(0), 1);
        Due.due("n", x.count(0), 5);
        Due.due("boxes", x.count(1), 2);
        Due.due("the TEXT is not kept", x.count(2), 0);
        Due.due("LOW", x.count(3), 1);
        Due.due("HIGH", x.count(4), 3);
        Due.due("several(4)", x.several(4, 6), 6);
        Due.due("several(0)", x.several(0, 0), 0);
        Due.due("told(0, 1)", x.told(0, 1), 7);
        Due.due("told(1, 1)", x.told(1, 1), 8);
        Due.due("THE FRACTION is not kept", x.part(0), 0);
        Due.due("STATUS is not kept", x.status(1), 2);
        Due.bad(x, "image(2)", y -> y.image(2));
        Due.bad(x, "image(-1)", y -> y.image(-1));
        Due.bad(x, "from(2)", y -> y.from(2));
        Due.bad(x, "from(-1)", y -> y.from(-1));
    }

    private static void twoImages() {
        NoneWithin x = new NoneWithin();
        x.box(1, 1);
        x.image(0);
        x.box(2, 2);
        x.image(1);
        x.box(3, 3);
        x.from(0);
        Due.due("boxes of image 0", x.count(1), 1);
        x.box(9, 9);
        x.from(1);
        Due.due("boxes of image 1", x.count(1), 2);
        Due.due("told(1, 0)", x.told(1, 0), 2);
        x.from(0);
        Due.due("image 0 is there still", x.count(1), 1);
        x.pop();
        x.image(0);
        x.from(1);
        x.from(0);
        Due.due("image 0 kept anew", x.count(1), 0);
    }

    private static void status() {
        NoneWithin x = new NoneWithin();
        x.sorts(0);
        x.row(99, 0);
        x.game(7, 0);
        x.pop();
        x.sorts(5);
        x.game(0, 0);
        x.lists(0, 0);
        x.chance(0);
        for (int set = 0; set < 18; set++) {
            x.box(set, 0);
        }
        for (int i = 0; i < 28; i++) {
            x.type(0, 8);
        }
        x.read();
        x.opens(16, 0);
        x.judge(1, 0);
        Due.due("status(0)", x.status(0), 3);
        Due.due("status(1)", x.status(1), 4);
        Due.due("status(2)", x.status(2), 5);
        Due.refused(x, "status(3)", NoneWithin.BAD, -1, y -> y.status(3));
        Due.refused(x, "status(-1)", NoneWithin.BAD, -1, y -> y.status(-1));
        Due.due("status(0)", x.status(0), 5);
    }

    private static void count() {
        NoneWithin x = Due.shop("sorts 6;sizes 2 7;box a 1;box b 1;box c 1;");
        int[] want = {6, 3, 42, 2, 7};
        for (int what = 0; what < 5; what++) {
            Due.due("count(" + what + ")", x.count(what), want[what]);
        }
        Due.bad(x, "count(5)", y -> y.count(5));
        Due.bad(x, "count(-1)", y -> y.count(-1));
    }

    private static long hash(long... all) {
        long h = 659;
        for (long v : all) {
            h = 31 * h + v;
        }
        return h;
    }

    private static void digest() {
        NoneWithin x = new NoneWithin();
        Due.due("digest() of a new one", x.digest(), hash(4, 0, 0, 0, 8, 0, 0, 0, 0, 0, 0, 0, 0, 0, 1));
        x.sizes(1, 3);
        x.box(3, 50);
        x.box(12, 60);
        x.several(0, 9);
        x.several(7, 2);
        x.type(65, 1);
        x.fullness();
        Due.due("digest()", x.digest(), hash(4, 2, 1, 1, 3, 3, 50, 12, 60, 9, 0, 0, 0, 0, 0, 0, 2, 1, 3));
        x.pop();
        Due.due("digest() behind pop", x.digest(), hash(4, 1, 1, 1, 3, 3, 50, 9, 0, 0, 0, 0, 0, 0, 2, 1, 3));
    }
}
