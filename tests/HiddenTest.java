import java.util.Collections;
import java.util.HashMap;
import java.util.List;
import java.util.Map;
import java.util.NoSuchElementException;

/** Promises 39 to 41: seen, hidden, look. */
public final class HiddenTest {
    private static final Checks C = new Checks();
    private static final Class<NoSuchElementException> N = NoSuchElementException.class;
    private static final Class<IllegalArgumentException> A = IllegalArgumentException.class;
    private static final Class<IllegalStateException> S = IllegalStateException.class;
    private static final String ROW = "street row;limit 999;house 0 spends 0 owes 5;house 0 spends 0 cash 20 owes 30;"
            + "house 0 spends 0 owes 7;";

    public static void main(String[] args) {
        bounds();
        seen();
        asTold();
        look();
        byTelling();
        C.end("HiddenTest");
    }

    private static void bounds() {
        DebtStreet x = Checks.told(ROW);
        x.tray(0, 3, 0);
        x.tray(1, 3, 13);
        x.tray(2, 3, 12);
        C.refused("seen: no tray", N, () -> x.seen(4, 0));
        C.refused("seen: no house", N, () -> x.seen(2, 3));
        C.refused("seen: no house, ahead of missing", N, () -> x.seen(3, -1));
        C.refused("seen: missing", S, () -> x.seen(3, 0));
        C.refused("seen: none", A, () -> x.seen(0, 0));
        C.refused("seen: thirteen", A, () -> x.seen(1, 0));
        C.refused("hidden: no tray", N, () -> x.hidden(-1, 0, -1));
        C.refused("hidden: no house", N, () -> x.hidden(0, 3, -1));
        C.refused("hidden: missing", S, () -> x.hidden(3, 0, -1));
        C.refused("hidden: none", A, () -> x.hidden(0, 0, 0));
        C.refused("hidden: k", A, () -> x.hidden(2, 0, -1));
        C.refused("look: no tray", N, () -> x.look(4, 0));
        C.refused("look: no house", N, () -> x.look(1, 3));
        C.refused("look: missing", S, () -> x.look(3, 0));
        C.refused("look: none", A, () -> x.look(0, 0));
        C.due("twelve", x.seen(2, 0), 297);
        long[] not = {-2, 1_000_000, Long.MIN_VALUE, Long.MAX_VALUE, (1L << 32) - 1};
        for (long v : not) {
            x.write(2, 11, v);
            C.refused("seen: " + v, A, () -> x.seen(2, 0));
            C.refused("hidden: " + v, A, () -> x.hidden(2, 0, 0));
            C.refused("look: " + v, A, () -> x.look(2, 0));
        }
        for (int place = 0; place < 12; place++) {
            x.write(2, 11, 0);
            x.write(2, place, -2);
            C.refused("seen: -2 at " + place, A, () -> x.seen(2, 0));
            x.write(2, place, -1);
        }
        x.write(2, 11, 999_999);
        C.due("999,999", x.seen(2, 0), 0);
        x.write(2, 11, -1);
        C.due("not seen", x.seen(2, 0), 297);
    }

    private static void seen() {
        DebtStreet x = Checks.told(ROW);
        // To house 1 goes what house 0 owes: 5 if the debt is elsewhere, 5 and d if it is there.
        Checks.fill(x, 0, 1, 5);
        C.due("elsewhere", x.seen(0, 1), 198);
        C.due("the first", x.hidden(0, 1, 0), 101);
        C.due("the last of house 1", x.hidden(0, 1, 98), 199);
        C.due("the first of house 2", x.hidden(0, 1, 99), 201);
        C.due("the last", x.hidden(0, 1, 197), 299);
        C.due("no more", x.hidden(0, 1, 198), -1);
        C.due("far beyond", x.hidden(0, 1, Integer.MAX_VALUE), -1);
        Checks.fill(x, 0, 1, 47);
        C.due("one", x.seen(0, 1), 1);
        C.due("42 at house 0", x.hidden(0, 1, 0), 42);
        C.due("no more", x.hidden(0, 1, 1), -1);
        Checks.fill(x, 0, 1, 104);
        C.due("99 at house 0", x.hidden(0, 1, 0), 99);
        Checks.fill(x, 0, 1, 105);
        C.due("none", x.seen(0, 1), 0);
        C.due("none", x.hidden(0, 1, 0), -1);
        // To house 2: 10 of house 1 and more, then 5 of house 0 and more.
        Checks.fill(x, 0, 1, 10, 8);
        C.due("one", x.seen(0, 2), 1);
        C.due("3 at house 0", x.hidden(0, 2, 0), 3);
        Checks.fill(x, 0, 1, -1, 5);
        C.due("not at house 0", x.seen(0, 2), 198);
        Checks.fill(x, 0, 1, 10, -1);
        C.due("not at house 1", x.seen(0, 2), 198);
        C.due("the first of house 2", x.hidden(0, 2, 99), 201);
        Checks.fill(x, 0, 1, 60, 5);
        C.due("50 at house 1", x.hidden(0, 2, 0), 150);
        Checks.fill(x, 0, 1, 0);
        C.due("nothing comes to house 0", x.seen(0, 0), 297);
        Checks.fill(x, 0, 1, 1);
        C.due("nothing comes to house 0", x.seen(0, 0), 0);
    }

    /** By the text as told: no deed counts, but an image's text does. */
    private static void asTold() {
        DebtStreet x = Checks.told(ROW);
        Checks.fill(x, 0, 1, 47);
        x.image(0);
        x.quarters(4);
        x.swap(0, 1);
        x.plant(1, 20);
        C.due("as told", x.hidden(0, 1, 0), 42);
        Checks.tell(x, "street row;limit 999;house 0 spends 0 owes 40;house 0 spends 0;");
        C.due("told again", x.hidden(0, 1, 0), 7);
        x.restore(0);
        C.due("the image's text", x.hidden(0, 1, 0), 42);
        DebtStreet q = Checks.told("street row;quarter 5;grows:quarter;house 0 spends 0 owes 5;house 0 spends 0;");
        Checks.fill(q, 0, 1, 30);
        q.quarters(3);
        C.due("the quarter as told", q.hidden(0, 1, 0), 20);
    }

    private static void look() {
        DebtStreet x = Checks.told(ROW);
        Checks.fill(x, 0, 1, -1);
        // Behind one quarter: nothing to house 0, nor (house 0 is rid of its debt) to house 1; what house 1 got goes
        // to house 2: 5, if nothing is hidden at house 0, or more.
        C.due("house 2 tells most", x.look(0, 0), 2);
        Checks.fill(x, 0, 1, -1, -1, -1, -1);
        C.due("nothing is told any more: the first", x.look(0, 0), 0);
        Checks.fill(x, 0, 1, 105);
        C.due("there are none", x.look(0, 1), -1);
        Checks.fill(x, 0, 1, 47);
        C.due("one: the first house", x.look(0, 1), 0);
        DebtStreet ring = Checks.told("street ring;limit 999;house 0 spends 0 owes 5;house 0 spends 0 owes 30;"
                + "house 0 spends 0 owes 7;");
        Checks.fill(ring, 0, 1, 30);
        // hidden at 0 or at 2: in the second quarter these come to house 2, and to house 1
        C.due("twos", ring.seen(0, 2), 198);
        C.due("the first of like ones", ring.look(0, 2), 1);
        // In the third quarter each has come round: at all doors 198 twos have one and the same.
        Checks.fill(ring, 0, 1, -1, -1);
        C.due("all alike: the first", ring.look(0, 2), 0);
        Checks.fill(ring, 0, 1, 7);
        C.due("at 0 or at 1: they come to 2, to 0", ring.look(0, 0), 0);
    }

    /** Each two that is found shows just this at the door when the text is told so, and no other one does. */
    private static void byTelling() {
        int[] owes = {9, 22, 3};
        String rest = ";grows:debt-30;takes:own<25 or quarter>1;limit 60;";
        long[][] rows = {{-1, 12}, {22, -1, -1}, {9, 22, -1, -1}, {-1, -1, 31}, {0}, {-1, 0}, {-1}, {-1, -1},
            {-1, -1, -1, -1, -1}, {0, 0}};
        for (long[] row : rows) {
            for (int h = 0; h < 3; h++) {
                DebtStreet x = Checks.told(text(owes) + rest);
                Checks.fill(x, 0, 2, row);
                int found = 0;
                List<Map<Long, Integer>> next = List.of(new HashMap<>(), new HashMap<>(), new HashMap<>());
                for (int two = 1; two < 300; two++) {
                    if (two % 100 == 0) {
                        continue;
                    }
                    int[] then = owes.clone();
                    then[two / 100] += two % 100;
                    DebtStreet y = Checks.told(text(then) + rest);
                    if (isLike(y, h, row)) {
                        C.due("two " + found, x.hidden(0, h, found), two);
                        found++;
                        for (int door = 0; door < 3; door++) {
                            long goes = y.burden(door, row.length + 1) - y.burden(door, row.length);
                            next.get(door).merge(goes, 1, Integer::sum);
                        }
                    }
                }
                C.due("how many", x.seen(0, h), found);
                C.due("no more", x.hidden(0, h, found), -1);
                C.due("look", x.look(0, h), found == 0 ? -1 : tellingMost(next));
            }
        }
    }

    private static int tellingMost(List<Map<Long, Integer>> next) {
        int best = 0;
        for (int door = 1; door < next.size(); door++) {
            if (Collections.max(next.get(door).values()) < Collections.max(next.get(best).values())) {
                best = door;
            }
        }
        return best;
    }

    private static String text(int[] owes) {
        return "street ring;house 4 spends 6 cash 5 owes " + owes[0] + ";house 7 spends 2 owes " + owes[1]
                + ";house 3 spends 8 cash 9 owes " + owes[2];
    }

    /** Whether what is to go to a house is what a row tells. */
    private static boolean isLike(DebtStreet y, int h, long[] row) {
        long before = 0;
        for (int i = 0; i < row.length; i++) {
            long till = y.burden(h, i + 1);
            if (row[i] >= 0 && till - before != row[i]) {
                return false;
            }
            before = till;
        }
        return true;
    }
}
