/** Promises 6 to 8: about, number, sized. */
public final class ToldTest {
    private static final Check CHECK = new Check("ToldTest");

    public static void main(String[] args) {
        about();
        number();
        sized();
        CHECK.end();
    }

    private static void about() {
        NumberHeaps none = new NumberHeaps();
        CHECK.refused("6 no TEXT", none.about(0), none, 1);
        NumberHeaps x = Check.of("number 30,7,9999,7;heaps 4;keep 1 in 3;keep 0 in 0;apart 1 3;apart 2 1;apart 0 3");
        CHECK.fine("6 NUMBERS", x.about(0), x, 4);
        CHECK.fine("6 HEAPS", x.about(1), x, 4);
        CHECK.fine("6 TOTAL", x.about(2), x, 10043);
        CHECK.fine("6 kept", x.about(3), x, 2);
        CHECK.fine("6 apart", x.about(4), x, 3);
        CHECK.fine("6 ACTS", x.about(5), x, 0);
        CHECK.fine("6 greatest", x.about(6), x, 9999);
        CHECK.fine("6 least", x.about(7), x, 7);
        CHECK.refused("6 what", x.about(8), x, 1);
        CHECK.refused("6 what", x.about(-1), x, 1);
        x.add(2);
        x.heaps(2);
        CHECK.fine("6 ACTS", x.about(5), x, 2);
        CHECK.fine("6 least", x.about(7), x, 2);
        NumberHeaps full = Check.of("number 9999,9999,9999,9999,9999,9999,9999,9999,9999,9999");
        CHECK.fine("6 the greatest TOTAL", full.about(2), full, 99990);
    }

    private static void number() {
        NumberHeaps none = new NumberHeaps();
        CHECK.refused("7 no TEXT", none.number(0, 0), none, 1);
        NumberHeaps x = Check.of("number 5,7,7,5,9;keep 3 in 2;apart 4 0;apart 0 2");
        int[] bySize = {3, 1, 2, 4, 0};
        int[] kept = {-2, -2, -2, 2, -2};
        int[] apart = {20, 0, 1, 0, 1};
        int[] values = {5, 7, 7, 5, 9};
        for (int i = 0; i < 5; i++) {
            CHECK.fine("7 itself", x.number(i, 0), x, values[i]);
            CHECK.fine("7 place BY SIZE", x.number(i, 1), x, bySize[i]);
            CHECK.fine("7 kept", x.number(i, 2), x, kept[i]);
            CHECK.fine("7 apart", x.number(i, 3), x, apart[i]);
        }
        CHECK.refused("7 no NUMBER", x.number(5, 0), x, 1);
        CHECK.refused("7 no NUMBER", x.number(-1, 0), x, 1);
        CHECK.refused("7 what", x.number(0, 4), x, 1);
        CHECK.refused("7 what", x.number(0, -1), x, 1);
    }

    private static void sized() {
        NumberHeaps none = new NumberHeaps();
        CHECK.refused("8 no TEXT", none.sized(0), none, 1);
        NumberHeaps x = Check.of("number 5,7,7,5,9");
        int[] places = {4, 1, 2, 0, 3};
        for (int j = 0; j < 5; j++) {
            CHECK.fine("8", x.sized(j), x, places[j]);
        }
        CHECK.refused("8 no place", x.sized(5), x, 1);
        CHECK.refused("8 no place", x.sized(-1), x, 1);
        x.become(4, 1);
        CHECK.fine("8 behind a change", x.sized(4), x, 4);
        CHECK.fine("8 behind a change", x.sized(0), x, 1);
    }
}
