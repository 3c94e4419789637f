import java.util.NoSuchElementException;

/** Promises 42 to 47: tray, write, copy, image, restore, count. */
public final class TraysTest {
    private static final Checks C = new Checks();
    private static final Class<NoSuchElementException> N = NoSuchElementException.class;
    private static final Class<IllegalArgumentException> A = IllegalArgumentException.class;
    private static final Class<IllegalStateException> S = IllegalStateException.class;
    private static final Class<IndexOutOfBoundsException> I = IndexOutOfBoundsException.class;
    private static final String RING = "street ring;limit 999;house 0 spends 0 owes 4;house 0 spends 0 owes 300;"
            + "house 0 spends 3 cash 1;";

    public static void main(String[] args) {
        tray();
        write();
        copy();
        image();
        restore();
        count();
        C.end("TraysTest");
    }

    private static void tray() {
        DebtStreet x = new DebtStreet();
        C.refusedDeed("tray 4", N, () -> x.tray(4, 9, 99));
        C.refusedDeed("tray -1", N, () -> x.tray(-1, 9, 99));
        C.refusedDeed("sort 4", A, () -> x.tray(0, 4, 1));
        C.refusedDeed("sort -1", A, () -> x.tray(0, -1, 1));
        C.refusedDeed("31", A, () -> x.tray(0, 0, 31));
        C.refusedDeed("-1", A, () -> x.tray(0, 0, -1));
        C.refused("still missing", S, () -> x.perform(0));
        x.tray(0, 0, 30);
        C.due("the last place", x.write(0, 29, 7), 7);
        x.tray(0, 0, 1);
        C.refused("a row of one", I, () -> x.write(0, 1, 1));
        x.tray(0, 3, 0);
        C.refused("a row of none", I, () -> x.write(0, 0, 1));
        C.due("a row of none", x.perform(0), 0);
        C.refused("the others are missing", S, () -> x.perform(1));
        // A row of 0s, whatever there was: quarters are -1, and 0 can't be.
        Checks.fill(x, 2, 3, -1, -1, -1);
        C.due("three quarters", x.judge(2, 3), 3);
        x.tray(2, 3, 3);
        C.due("0 can't be", x.judge(2, 0), 0);
        x.write(2, 0, -1);
        C.due("0 can't be", x.judge(2, 0), 1);
    }

    private static void write() {
        DebtStreet x = new DebtStreet();
        long[] all = {0, 1, -1, 127, 128, 255, 256, 300, -128, -129, 32767, 32768, 65535, 65536, -32769, 2147483647,
            2147483648L, 4294967295L, 4294967296L, -2147483649L, Long.MAX_VALUE, Long.MIN_VALUE, 0x123456789abcdef0L};
        for (int sort = 0; sort < 4; sort++) {
            x.tray(sort, sort, 2);
            for (long v : all) {
                long want = sort == 0 ? (byte) v : sort == 1 ? (short) v : sort == 2 ? (int) v : v;
                C.due("sort " + sort + ": " + v, x.write(sort, 1, v), want);
            }
        }
        C.refused("place 2", I, () -> x.write(0, 2, 1));
        C.refused("place -1", I, () -> x.write(0, -1, 1));
        C.refused("tray 4", N, () -> x.write(4, -1, 1));
        C.refused("tray -1", N, () -> x.write(-1, 0, 1));
        DebtStreet y = new DebtStreet();
        C.refused("missing", S, () -> y.write(3, -1, 1));
    }

    private static void copy() {
        DebtStreet x = Checks.told(RING);
        x.tray(0, 2, 5);
        x.tray(1, 0, 3);
        x.tray(2, 3, 0);
        C.refused("no tray", N, () -> x.copy(4, 0));
        C.refused("no house", N, () -> x.copy(0, 3));
        C.refused("no house, ahead of missing", N, () -> x.copy(3, -1));
        C.refused("missing", S, () -> x.copy(3, 0));
        C.due("none", x.copy(2, 0), 0);
        // To house 1: 4 of house 0, then what house 2 ran into, then the 300 that came round.
        C.due("five", x.copy(0, 1), 5);
        C.due("5 quarters of what is told: nothing is hidden", x.seen(0, 1), 0);
        C.due("nothing is done", x.count(9), 0);
        C.due("nothing is done", x.count(7), 0);
        // What was copied is what is seen, if nothing is hidden: with 5 more at house 0 that is found.
        DebtStreet more = Checks.told(RING.replace("owes 4", "owes 9"));
        long before = 0;
        long[] goes = new long[5];
        for (int i = 0; i < 5; i++) {
            goes[i] = more.burden(1, i + 1) - before;
            before += goes[i];
        }
        Checks.fill(x, 0, 2, goes);
        C.due("one", x.seen(0, 1), 1);
        C.due("5 at house 0", x.hidden(0, 1, 0), 5);
        Checks.tell(x, RING.replace("owes 4", "owes 9"));
        x.copy(0, 1);
        Checks.tell(x, RING);
        C.due("as copied", x.hidden(0, 1, 0), 5);
        // Cut to the tray's sort: 300 is 44 in 8 bits. Told as deeds: 4 is no house, 44 neither.
        DebtStreet cut = Checks.told("street ring;limit 999;house 0 spends 0 owes 300;house 0 spends 0;");
        cut.tray(0, 0, 1);
        C.due("one", cut.copy(0, 1), 1);
        Checks.tell(cut, "street ring;limit 999;house 0 spends 0 owes 10;house 0 spends 0;");
        C.due("44: 34 at house 0", cut.hidden(0, 1, 0), 34);
        // From the first place on; the quarters to come, not those of the text.
        DebtStreet on = Checks.told(RING);
        on.quarters(1);
        on.tray(0, 2, 2);
        on.copy(0, 1);
        DebtStreet told = Checks.told("street ring;limit 999;house 0 spends 0 owes 2;house 0 spends 0 owes 4;"
                + "house 0 spends 3 owes 295;");
        C.due("to house 1 now", on.burden(1, 1), 2);
        C.due("in two", on.burden(1, 2), 305);
        C.due("a text like it", told.burden(1, 2), 300);
        Checks.fill(told, 0, 2, 2, 303);
        C.due("two: 5 more at house 2", told.hidden(0, 1, 0), 205);
        Checks.tell(on, "street ring;limit 999;house 0 spends 0 owes 2;house 0 spends 0 owes 4;"
                + "house 0 spends 3 owes 295;");
        C.due("as copied", on.hidden(0, 1, 0), 205);
    }

    private static void image() {
        DebtStreet x = new DebtStreet();
        C.refusedDeed("image(3)", N, () -> x.image(3));
        C.refusedDeed("image(-1)", N, () -> x.image(-1));
        x.image(2);
        Checks.tell(x, RING);
        x.restore(2);
        C.due("no houses", x.count(1), 0);
        C.due("no lines", x.count(0), 0);
        C.due("a row", x.count(8), 0);
        C.due("limit", x.count(6), 100);
    }

    private static void restore() {
        DebtStreet x = Checks.told(RING);
        C.refusedDeed("restore(3)", N, () -> x.restore(3));
        C.refusedDeed("restore(-1)", N, () -> x.restore(-1));
        C.refusedDeed("none was made", S, () -> x.restore(0));
        x.quarters(2);
        x.swap(0, 2);
        x.image(0);
        int[] at0 = all(x);
        Checks.fill(x, 1, 2, 100, 101);
        x.perform(1);
        x.quarters(9);
        x.image(1);
        int[] at1 = all(x);
        Checks.tell(x, "street row;limit 5;pays:1;grows:2;takes:1=2;house 1 spends 0 cash 5 owes 9;house 1 spends 0;");
        x.image(2);
        Checks.feed(x, "street");
        Checks.tell(x, "what;");
        Checks.feed(x, "street");
        x.tray(1, 2, 1);
        x.restore(0);
        like("image 0", all(x), at0);
        C.due("the tape stays", x.count(10), 20);
        C.due("the fault stays", x.fault(0), 2);
        C.due("its place stays", x.fault(1), 0);
        C.refused("the tray stays", I, () -> x.write(1, 1, 1));
        C.due("its deeds", x.undo(2), 0);
        C.due("as told", x.house(1, 0), 300);
        C.due("as told", x.household(2, 1), 3);
        C.due("its text", x.count(8), 1);
        x.restore(1);
        like("image 1", all(x), at1);
        C.due("its deeds", x.undo(1), 4);
        C.due("its deeds", x.undo(4), 0);
        C.due("as told", x.house(1, 0), 300);
        x.restore(2);
        C.due("its laws: pays", x.pays(0), 1);
        C.due("its laws: grows", x.grows(0, 5), 2);
        C.due("its laws: takes", x.takes(0, 5), false);
        C.due("its limit", x.count(6), 5);
        x.restore(0);
        like("image 0, once more", all(x), at0);
        C.due("laws", x.pays(1), 0);
        C.due("laws", x.grows(0, 5), 0);
        C.due("laws", x.takes(0, 5), true);
        x.image(0);
        x.undo(1);
        x.image(1);
        x.restore(0);
        like("image 0, made anew", all(x), at0);
        C.refusedDeed("as always", N, () -> x.restore(3));
    }

    private static void like(String name, int[] got, int[] want) {
        for (int i = 0; i < want.length; i++) {
            C.due(name + ": " + i, got[i], want[i]);
        }
    }

    /** All that can be seen of three houses, and what is counted but for the tape. */
    private static int[] all(DebtStreet x) {
        int[] all = new int[10 + 3 * 7];
        for (int what = 0; what < 10; what++) {
            all[what] = x.count(what);
        }
        for (int h = 0; h < 3; h++) {
            for (int what = 0; what < 7; what++) {
                all[10 + 7 * h + what] = what < 3 ? x.house(h, what) : x.household(h, what - 3);
            }
        }
        return all;
    }

    private static void count() {
        DebtStreet x = Checks.told("street ring;limit 7;quarter 8;house 1 spends 1 cash 20 owes 5;"
                + "house 0 spends 0 empty owes 6;house 2 spends 2 cash 300;");
        x.plant(0, 1);
        x.plant(0, 2);
        Checks.feed(x, "123456789012345678901");
        int[] want = {6, 3, 1, 11, 320, 0, 7, 8, 1, 2, 40, -1};
        for (int what = 0; what < want.length; what++) {
            C.due("count(" + what + ")", x.count(what), want[what]);
        }
        C.due("count(-1)", x.count(-1), -1);
        C.due("count(MAX)", x.count(Integer.MAX_VALUE), -1);
        DebtStreet row = Checks.told("street row;house 0 spends 5;");
        row.quarters(1);
        C.due("the sea", row.count(5), 5);
        C.due("a row", row.count(8), 0);
    }
}
