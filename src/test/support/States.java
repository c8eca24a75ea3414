/** Objects in states far from one another, made anew each time they are asked for. */
final class States {
    static final int MANY = 6;
    static final String[] NAMES = {"a new one", "one in use", "a full one", "one sort", "eight sorts", "five sorts, empty"};

    private States() {
    }

    static NoneWithin make(int which) {
        switch (which) {
            case 0:
                return new NoneWithin();
            case 1:
                return inUse();
            case 2:
                return full();
            case 3:
                return oneSort();
            case 4:
                return eightSorts();
            default:
                return boxes(5);
        }
    }

    static NoneWithin boxes(int n, int... sets) {
        NoneWithin x = new NoneWithin();
        x.sorts(n);
        for (int set : sets) {
            x.box(set, 1);
        }
        return x;
    }

    /** Something in everything there is, and all of it unlike; image 1 was not kept. */
    private static NoneWithin inUse() {
        NoneWithin x = new NoneWithin();
        x.sorts(2);
        x.sizes(2, 6);
        x.box(1, 98);
        x.several(7, 8);
        x.image(0);
        x.sorts(3);
        x.sizes(1, 2);
        x.box(3, 10);
        x.box(4, 20);
        x.box(6, 30);
        x.several(1, 4);
        x.fullness();
        Due.write(x, "sorts 6;sizes 2 5;box bf 77;box - 3;");
        x.sorts(0);
        x.from(1);
        x.type(0, 9);
        return x;
    }

    /** A LIST of 16, a TEXT of 200, both images. */
    static NoneWithin full() {
        NoneWithin x = new NoneWithin();
        x.image(0);
        x.sorts(5);
        for (int i = 0; i < 16; i++) {
            x.box(31 - i, 99 - i);
        }
        x.image(1);
        x.fullness();
        String shop = "sorts 7;box ag 12;sizes 3 4;";
        String end = "box b 9 ;";
        Due.write(x, shop + " ".repeat(200 - shop.length() - end.length()) + end);
        return x;
    }

    private static NoneWithin oneSort() {
        NoneWithin x = new NoneWithin();
        x.sorts(1);
        x.box(1, 1);
        x.box(0, 0);
        return x;
    }

    /** Its LIST breaks every law but the first. */
    private static NoneWithin eightSorts() {
        NoneWithin x = new NoneWithin();
        x.sorts(8);
        x.box(0, 5);
        x.box(255, 6);
        x.box(1, 7);
        for (int sort = 0; sort < 8; sort++) {
            x.several(sort, 9);
        }
        return x;
    }
}
