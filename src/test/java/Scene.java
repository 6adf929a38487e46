/**
 * Objects at the edges: without a TEXT, with the fewest and the most of all that there may be. But for the new one, all
 * end with a TEXT that is refused by 4, so that where() has a place that a call can take away.
 */
enum Scene {
    /** Nothing at all. */
    NEW(0, 0, false, true, 0, 0, 0),
    /** Only TEXTS that were refused. */
    FAULTY(0, 0, false, true, 0, 0, 20),
    /** The fewest NUMBERS, no ACT, no IMAGE, an empty tape. */
    ONE(1, 0, false, true, 1, 0, 0),
    /** Some of everything, and IMAGE 0. */
    SOME(5, 2, false, true, 2, 1, 40),
    /** The most NUMBERS, ACTS, IMAGES, apart, bytes. */
    FULL(10, 10, true, true, 1, 3, 300),
    /** No ROW is ALLOWED, of however many HEAPS; IMAGE 1. */
    BARRED(2, 1, false, false, 1, 2, 20);

    final int numbers;
    final int acts;
    final boolean sixApart;
    final boolean rowAllowed;
    final int finds;
    /** Which are kept, as bits. */
    final int images;
    final int bytes;

    Scene(int numbers, int acts, boolean sixApart, boolean rowAllowed, int finds, int images, int bytes) {
        this.numbers = numbers;
        this.acts = acts;
        this.sixApart = sixApart;
        this.rowAllowed = rowAllowed;
        this.finds = finds;
        this.images = images;
        this.bytes = bytes;
    }

    NumberHeaps make() {
        NumberHeaps x = new NumberHeaps();
        switch (this) {
            case ONE: Check.text(x, "number 7"); break;
            case SOME: makeSome(x); break;
            case FULL: makeFull(x); break;
            case BARRED: makeBarred(x); break;
            default: break;
        }
        if (this != NEW) {
            Check.text(x, "number 5,0");
            while (x.bytes() < bytes) {
                Check.feed(x, Check.bytesOf(x.bytes() == 0 ? "number 12,34;heaps 3" : "                    "));
            }
        }
        return x;
    }

    private static void makeSome(NumberHeaps x) {
        Check.text(x, "number 8,7,6,5,3;heaps 3;keep 1 in 0;apart 0 2");
        x.become(4, 4);
        x.image(0);
        x.keepIn(2, 1);
        x.write();
    }

    /** The powers of two, so that SEARCH has a LEAF at once, of 1. */
    private static void makeFull(NumberHeaps x) {
        Check.text(x, "number 1,2,4,8,16,32,64,128,256,511;keep 9 in 1"
            + ";apart 0 1;apart 0 2;apart 0 3;apart 0 4;apart 0 5;apart 0 6");
        x.image(1);
        x.heaps(4);
        x.become(9, 512);
        x.image(0);
        for (int turn = 0; turn < 9; turn++) {
            x.keepIn(turn, turn % 2 == 0 ? -2 : 1);
        }
        x.keepIn(1, 0);
        x.apart(0, 6);
        x.apart(0, 7);
        x.keepIn(1, 1);
        x.write();
    }

    private static void makeBarred(NumberHeaps x) {
        Check.text(x, "number 3,2;keep 0 in 1;apart 0 1");
        x.image(1);
        x.write();
        x.keepIn(1, 1);
    }
}
