import java.util.NoSuchElementException;

/** The bounds that the document names for trays, images and counts: promises 42 to 47. */
public final class TraysBoundsTest {
    private static final Checks C = new Checks();
    private static final Class<NoSuchElementException> N = NoSuchElementException.class;
    private static final Class<IllegalArgumentException> A = IllegalArgumentException.class;
    private static final Class<IllegalStateException> S = IllegalStateException.class;
    private static final Class<IndexOutOfBoundsException> I = IndexOutOfBoundsException.class;
    private static final int[] NO_TRAY = {-1, 4, 5, Integer.MIN_VALUE, Integer.MAX_VALUE};
    private static final int[] NO_IMAGE = {-1, 3, 4, Integer.MIN_VALUE, Integer.MAX_VALUE};

    public static void main(String[] args) {
        fourTrays();
        fourSorts();
        noneToThirtyNumbers();
        rowsOfZeros();
        placesWrittenTo();
        cutToItsSort();
        whichThrow();
        copiedToAllPlaces();
        copiedFromNow();
        copiedAsCut();
        threeImages();
        imagesOfAllBut();
        imagesOfDeeds();
        counted();
        C.end("TraysBoundsTest");
    }

    /** "TRAYS 0 to 3 are MISSING at first". */
    private static void fourTrays() {
        DebtStreet x = Checks.told("street row;house 0 spends 0;");
        for (int t = 0; t < 4; t++) {
            for (int k = 0; k < 4; k++) {
                int tray = k;
                if (k < t) {
                    C.due("laid: " + k, x.perform(k), 0);
                } else {
                    C.refused("missing: perform(" + k + ")", S, () -> x.perform(tray));
                    C.refused("missing: judge(" + k + ", 0)", S, () -> x.judge(tray, 0));
                    C.refused("missing: write(" + k + ", 0, 1)", S, () -> x.write(tray, 0, 1));
                    C.refused("missing: copy(" + k + ", 0)", S, () -> x.copy(tray, 0));
                    C.refused("missing: seen(" + k + ", 0)", S, () -> x.seen(tray, 0));
                    C.refused("missing: hidden(" + k + ", 0, 0)", S, () -> x.hidden(tray, 0, 0));
                    C.refused("missing: look(" + k + ", 0)", S, () -> x.look(tray, 0));
                }
            }
            x.tray(t, 3 - t, 0);
        }
        for (int t : NO_TRAY) {
            C.refusedDeed("tray(" + t + ", 0, 0)", N, () -> x.tray(t, 0, 0));
            C.refused("write(" + t + ", 0, 0)", N, () -> x.write(t, 0, 0));
            C.refused("copy(" + t + ", 0)", N, () -> x.copy(t, 0));
            C.refused("perform(" + t + ")", N, () -> x.perform(t));
            C.refused("judge(" + t + ", 0)", N, () -> x.judge(t, 0));
        }
    }

    /** "8 bits (sort 0), 16 (1), 32 (2), 64 (3)"; "no such sort". */
    private static void fourSorts() {
        DebtStreet x = new DebtStreet();
        for (int sort = 0; sort < 4; sort++) {
            x.tray(1, sort, 1);
            long top = 1L << (8 << sort) - 1;
            C.due("the most of sort " + sort, x.write(1, 0, top - 1), top - 1);
            C.due("one more", x.write(1, 0, top), -top);
            C.due("the least of sort " + sort, x.write(1, 0, -top), -top);
            C.due("one less", x.write(1, 0, -top - 1), top - 1);
        }
        x.tray(1, 0, 2);
        for (int sort : new int[] {-1, 4, 5, Integer.MIN_VALUE, Integer.MAX_VALUE}) {
            C.refusedDeed("tray(1, " + sort + ", 1)", A, () -> x.tray(1, sort, 1));
            C.due("as it was", x.write(1, 1, 128), -128);
            C.refusedDeed("told first: tray(4, " + sort + ", 99)", N, () -> x.tray(4, sort, 99));
        }
    }

    /** "rows of 0 to 30 numbers"; "or not so many". */
    private static void noneToThirtyNumbers() {
        DebtStreet x = new DebtStreet();
        for (int many = 0; many <= 30; many++) {
            int row = many;
            x.tray(2, many % 4, many);
            if (many > 0) {
                C.due("the first of " + many, x.write(2, 0, 5), 5);
                C.due("the last of " + many, x.write(2, many - 1, 6), 6);
            }
            C.refused("behind the last of " + many, I, () -> x.write(2, row, 7));
            C.refused("ahead of the first of " + many, I, () -> x.write(2, -1, 7));
        }
        for (int many : new int[] {-1, 31, 32, 900, Integer.MIN_VALUE, Integer.MAX_VALUE}) {
            C.refusedDeed("tray(2, 0, " + many + ")", A, () -> x.tray(2, 0, many));
            C.refusedDeed("tray(2, 9, " + many + ")", A, () -> x.tray(2, 9, many));
            C.refusedDeed("told first: tray(-1, 0, " + many + ")", N, () -> x.tray(-1, 0, many));
            C.refusedDeed("still missing: tray(0, 0, " + many + ")", A, () -> x.tray(0, 0, many));
            C.refused("still missing", S, () -> x.perform(0));
        }
        C.due("as it was", x.write(2, 29, 300), 300);
    }

    /** "A TRAY is a row of so many 0s", laid anew, too: 0 can't be done, NONE can. */
    private static void rowsOfZeros() {
        DebtStreet x = new DebtStreet();
        for (int sort = 0; sort < 4; sort++) {
            x.tray(sort, sort, 30);
            C.due("0 at first", x.judge(sort, 0), 0);
            for (int i = 0; i < 30; i++) {
                x.write(sort, i, -1);
                C.due("0 behind " + i, x.judge(sort, 0), i < 29 ? i + 1 : -1);
            }
            x.tray(sort, 3 - sort, 30);
            C.due("0 again", x.judge(sort, 0), 0);
            for (int i = 0; i < 30; i += 29) {
                x.write(sort, i, -1);
                C.due("0 again", x.judge(sort, 0), 1);
            }
        }
    }

    /** "IndexOutOfBoundsException: it has no such place". */
    private static void placesWrittenTo() {
        DebtStreet x = new DebtStreet();
        Checks.fill(x, 0, 1, 1, 2, 3);
        for (int place : new int[] {-1, 3, 4, 29, 30, 31, Integer.MIN_VALUE, Integer.MAX_VALUE}) {
            C.refused("write(0, " + place + ", 9)", I, () -> x.write(0, place, 9));
        }
        // Each number in a place of its own.
        DebtStreet y = Checks.told("street ring;house 0 spends 0;house 0 spends 0;house 0 spends 0;house 0 spends 0;");
        Checks.fill(y, 3, 0, 100, 101, 102, 103);
        y.write(3, 1, -1);
        C.due("done", y.perform(3), 4);
        int[] hedges = {3, 0, 4, 4};
        for (int h = 0; h < 4; h++) {
            C.due("hedge " + h, y.house(h, 1), hedges[h]);
        }
    }

    /** "cut to its sort: as it is there". */
    private static void cutToItsSort() {
        long[] all = {0, 1, -1, 127, 128, 129, 255, 256, 257, -127, -128, -129, -256, 32767, 32768, 65535, 65536, -32768, -32769,
            Integer.MAX_VALUE, Integer.MIN_VALUE, Integer.MAX_VALUE + 1L, Integer.MIN_VALUE - 1L, (1L << 32) - 1, 1L << 32,
            (1L << 32) + 1, Long.MAX_VALUE, Long.MIN_VALUE, Long.MAX_VALUE - 1, Long.MIN_VALUE + 1, 0x80, 0x8000, 0x80000000L};
        DebtStreet x = new DebtStreet();
        for (int sort = 0; sort < 4; sort++) {
            x.tray(sort, sort, 30);
            int left = 64 - (8 << sort);
            for (int i = 0; i < all.length; i++) {
                C.due("sort " + sort + ": " + all[i], x.write(sort, i % 30, all[i]), all[i] << left >> left);
            }
        }
        // As it is there: 255 of 8 bits is NONE, a quarter; 356 of 8 bits is 100, a hedge.
        DebtStreet y = Checks.told("street ring;house 0 spends 0;");
        Checks.fill(y, 0, 0, 255, 356, -156);
        C.due("done", y.perform(0), 3);
        C.due("a quarter", y.count(7), 1);
        C.due("a hedge", y.house(0, 1), 4);
        Checks.fill(y, 0, 1, 255);
        C.due("not of 16 bits", y.perform(0), 0);
    }

    private static void whichThrow() {
        DebtStreet x = Checks.told("street row;house 0 spends 0;");
        x.tray(0, 0, 1);
        for (int t : NO_TRAY) {
            C.refused("write: no tray", N, () -> x.write(t, 99, 1));
            C.refused("copy: no tray", N, () -> x.copy(t, 99));
        }
        C.refused("write: missing", S, () -> x.write(1, 99, 1));
        C.refused("write: missing", S, () -> x.write(1, -1, 1));
        C.refused("write: no place", I, () -> x.write(0, 1, 1));
        C.refused("copy: no house, missing", N, () -> x.copy(1, 1));
        C.refused("copy: no house", N, () -> x.copy(0, 1));
        C.refused("copy: no house", N, () -> x.copy(0, -1));
        C.refused("copy: missing", S, () -> x.copy(1, 0));
        C.due("copy", x.copy(0, 0), 1);
    }

    /** Promise 44: "from its first place on, as many as it has places: how many". */
    private static void copiedToAllPlaces() {
        for (int many = 0; many <= 30; many++) {
            // In the k-th quarter k - 1 goes to house 1, as told deeds: 0 can't be, 1 neither with one house.
            DebtStreet x = Checks.told("street row;quarter 0;grows:1-debt;house 0 spends 1;house 0 spends 0;");
            x.tray(0, 2, many);
            C.due("copy to " + many, x.copy(0, 1), many);
            C.due("nothing is done", x.count(7), 0);
            if (many >= 1 && many <= 12) {
                DebtStreet y = Checks.told("street row;limit 999;house 0 spends 1;house 0 spends 0;");
                y.tray(0, 2, many);
                C.due("copy to " + many, y.copy(0, 1), many);
                // 1 a quarter, each one: nothing is hidden at house 0, and at house 1 it isn't seen.
                C.due("all places", y.seen(0, 1), 99);
                for (int i = 0; i < many; i++) {
                    y.write(0, i, 2);
                    C.due("place " + i + " was 1", y.seen(0, 1), i == 0 ? many == 1 ? 1 : 1 : 0);
                    y.write(0, i, 1);
                }
            }
        }
        // 30 quarters, the last of them too: 100 in the 30th is a hedge at house 0, all else no deed.
        DebtStreet x = Checks.told("street row;limit 999;takes:quarter=29;house 0 spends 0 owes 100;house 0 spends 0;");
        x.tray(1, 3, 30);
        x.copy(1, 1);
        for (int i = 0; i < 29; i++) {
            x.write(1, i, -1);
        }
        C.due("30 done", x.perform(1), 30);
        C.due("the last one", x.house(0, 1), 4);
        C.due("QUARTER", x.count(7), 29);
        DebtStreet z = Checks.told("street row;limit 999;takes:quarter=0;house 0 spends 0 owes 100;house 0 spends 0;");
        z.tray(1, 3, 1);
        z.copy(1, 1);
        C.due("the first one", z.perform(1), 1);
        C.due("a hedge", z.house(0, 1), 4);
    }

    /** "in the QUARTERS to come": from now on, not as told. */
    private static void copiedFromNow() {
        DebtStreet x = Checks.told("street row;limit 999;house 0 spends 0 owes 100;house 0 spends 0;house 0 spends 0;");
        x.quarters(1);
        x.tray(0, 3, 1);
        C.due("copy", x.copy(0, 2), 1);
        C.due("100 goes to house 2 now", x.judge(0, 0), -1);
        C.due("copy", x.copy(0, 1), 1);
        C.due("0 goes to house 1", x.judge(0, 0), 0);
        C.due("deeds", x.count(9), 1);
    }

    private static void copiedAsCut() {
        int[] owes = {99, 100, 356, 255, 256};
        int[] in8 = {99, 100, 100, -1, 0};
        for (int i = 0; i < owes.length; i++) {
            DebtStreet x = Checks.told("street row;limit 999;house 0 spends 0 owes " + owes[i] + ";house 0 spends 0;");
            x.tray(0, 0, 1);
            x.tray(1, 0, 1);
            C.due("copy", x.copy(0, 1), 1);
            x.write(1, 0, in8[i]);
            for (int what = 0; what < 4; what++) {
                C.due("cut: " + owes[i], x.judge(0, what), x.judge(1, what));
            }
        }
    }

    /** "IMAGES 0 to 2 ... (none at first)". */
    private static void threeImages() {
        DebtStreet x = Checks.told("street row;house 0 spends 0;");
        for (int i : NO_IMAGE) {
            C.refusedDeed("image(" + i + ")", N, () -> x.image(i));
            C.refusedDeed("restore(" + i + ")", N, () -> x.restore(i));
        }
        for (int i = 0; i < 3; i++) {
            for (int k = i; k < 3; k++) {
                int none = k;
                C.refusedDeed("none was made: restore(" + k + ")", S, () -> x.restore(none));
            }
            x.plant(0, i + 1);
            x.image(i);
        }
        for (int i = 2; i >= 0; i--) {
            x.restore(i);
            C.due("image " + i, x.house(0, 1), i + 1);
            x.restore(i);
            C.due("image " + i + " again", x.house(0, 1), i + 1);
        }
        x.plant(0, 9);
        x.image(1);
        x.restore(0);
        C.due("image 0", x.house(0, 1), 1);
        x.restore(1);
        C.due("image 1 anew", x.house(0, 1), 9);
        DebtStreet none = new DebtStreet();
        none.image(0);
        Checks.tell(none, "street ring;limit 3;house 0 spends 0;");
        none.restore(0);
        C.due("no houses", none.count(1), 0);
        C.due("a row", none.count(8), 0);
        C.due("limit", none.count(6), 100);
    }

    /** "all but the tape, the FAULT and TRAYS, as it was". */
    private static void imagesOfAllBut() {
        DebtStreet x = Checks.told("street ring;limit 50;quarter 6;house 3 spends 1 owes 20;house 0 spends 2 cash 7 hedge 3;");
        Checks.tell(x, "street row;limit?");
        Checks.feed(x, "street row;");
        Checks.fill(x, 0, 0, -1);
        x.image(0);
        Checks.tell(x, "street row;");
        C.due("no fault", x.fault(0), 0);
        Checks.feed(x, "street row;limit 77; and more than 20 bytes");
        Checks.fill(x, 0, 0, -1, -1, -1);
        x.restore(0);
        int[] counts = {5, 2, 0, 20, 7, 0, 50, 6, 1, 0, 60, -1};
        for (int what = 0; what < counts.length; what++) {
            C.due("count(" + what + ")", x.count(what), counts[what]);
        }
        C.due("the FAULT as it is", x.fault(0), 0);
        C.due("its place", x.fault(1), -1);
        C.due("the TRAYS as they are", x.judge(0, 3), 9);
        C.due("hedge", x.house(1, 1), 3);
        C.due("the tape as it is", x.street(20), 2);
        C.due("limit", x.count(6), 77);
        x.restore(0);
        C.due("the tape is empty still", x.count(10), 0);
    }

    /** The deeds that can be undone are of all that was; an image itself is no deed. */
    private static void imagesOfDeeds() {
        DebtStreet x = Checks.told("street ring;house 0 spends 0 hedge 1;");
        for (int i = 2; i <= 13; i++) {
            x.plant(0, i);
        }
        x.image(0);
        C.due("no deed", x.count(9), 10);
        C.due("undone", x.undo(10), 0);
        C.due("the eldest are forgotten", x.house(0, 1), 3);
        x.plant(0, 20);
        x.image(1);
        x.restore(0);
        C.due("ten", x.count(9), 10);
        C.due("hedge", x.house(0, 1), 13);
        C.refused("not eleven", A, () -> x.undo(11));
        C.due("undone", x.undo(9), 1);
        C.due("hedge", x.house(0, 1), 4);
        x.restore(1);
        C.due("one", x.count(9), 1);
        C.due("undone", x.undo(1), 0);
        C.due("hedge", x.house(0, 1), 3);
        C.refused("none", A, () -> x.undo(1));
        x.restore(0);
        C.due("its deeds once more", x.undo(10), 0);
        C.due("hedge", x.house(0, 1), 3);
        // Other deeds behind an image, and those of a full history: the image's own come back.
        x.restore(0);
        x.undo(10);
        for (int i = 0; i < 15; i++) {
            x.plant(0, 20 - i);
        }
        x.restore(0);
        for (int i = 12; i >= 3; i--) {
            C.due("undone", x.undo(1), i - 3);
            C.due("hedge", x.house(0, 1), i);
        }
        // What is done behind an image is not in it.
        x.restore(0);
        x.quarters(3);
        x.restore(0);
        C.due("QUARTER", x.count(7), 0);
        C.due("deeds", x.count(9), 10);
    }

    /** Promise 47: "0 ... 10 ...; NONE for others". */
    private static void counted() {
        DebtStreet x = Checks.told("street ring;limit 7;quarter 8;" + "house 1 spends 1 cash 999 owes 999;".repeat(6)
                + "house 1 spends 1 cash 999 owes 999 empty;");
        x.plant(0, 0);
        x.feed(0, 0, 0, 0, 0);
        int[] want = {10, 7, 1, 6993, 5994, 0, 7, 8, 1, 1, 20};
        for (int what = -2; what < 14; what++) {
            C.due("count(" + what + ")", x.count(what), what < 0 || what > 10 ? -1 : want[what]);
        }
        C.due("count(MAX)", x.count(Integer.MAX_VALUE), -1);
        C.due("count(MIN)", x.count(Integer.MIN_VALUE), -1);
        for (int many = 0; many <= 7; many++) {
            DebtStreet y = Checks.told("street row;limit 0;takes:1=2;" + "house 0 spends 1 cash 1;".repeat(many) + "house 0 spends 0 empty;".repeat(7 - many));
            C.due("gone", y.count(2), 7 - many);
            C.due("cash of all", y.count(4), many);
            y.quarters(1);
            C.due("cash of all", y.count(4), 0);
            C.due("gone", y.count(2), 7 - many);
            y.quarters(1);
            C.due("ruined, but the last one of a row", y.count(2), many == 7 ? 6 : 7);
            C.due("came to the sea", y.count(5), many == 7 ? 1 : 0);
            C.due("debt of all", y.count(3), many == 7 ? 6 : many);
        }
    }
}
