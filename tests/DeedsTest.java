import java.util.NoSuchElementException;

/** Promises 10 to 18: swap, gift, plant, payOff, quarters, undo, judge, perform, year. */
public final class DeedsTest {
    private static final Checks C = new Checks();
    private static final Class<NoSuchElementException> N = NoSuchElementException.class;
    private static final Class<IllegalArgumentException> A = IllegalArgumentException.class;
    private static final Class<IllegalStateException> S = IllegalStateException.class;
    private static final String THREE = "street ring;limit 500;house 10 spends 5 cash 20 owes 30 hedge 2;"
            + "house 5 spends 6 cash 40 owes 25;house 7 spends 7 empty owes 11;";

    public static void main(String[] args) {
        swap();
        gift();
        plant();
        payOff();
        quarters();
        undo();
        judge();
        perform();
        toldNumbers();
        year();
        yearByHand();
        C.end("DeedsTest");
    }

    private static void swap() {
        DebtStreet x = Checks.told(THREE);
        C.due("swap", x.swap(0, 2), 41);
        C.due("gone", x.household(0, 3), 1);
        C.due("earns", x.household(2, 0), 10);
        C.due("spends", x.household(2, 1), 5);
        C.due("cash", x.household(2, 2), 20);
        C.due("not gone", x.household(2, 3), 0);
        C.due("the debt stays", x.house(0, 0), 30);
        C.due("the hedge stays", x.house(0, 1), 2);
        C.due("a deed", x.count(9), 1);
        int[][] not = {{0, 0}, {0, 3}, {3, 0}, {-1, 1}, {1, -1}, {9, 9}, {Integer.MIN_VALUE, Integer.MAX_VALUE}};
        for (int[] gh : not) {
            C.due("swap(" + gh[0] + ", " + gh[1] + ")", x.swap(gh[0], gh[1]), -1);
        }
        C.due("no deed", x.count(9), 1);
    }

    private static void gift() {
        DebtStreet x = Checks.told(THREE);
        C.due("gift", x.gift(1, 0, 15), 25);
        C.due("given", x.household(0, 2), 35);
        C.due("all of it", x.gift(1, 0, 25), 0);
        C.due("given", x.household(0, 2), 60);
        C.due("deeds", x.count(9), 2);
        C.due("too much", x.gift(0, 1, 61), -3);
        C.due("of a gone one", x.gift(2, 0, 999), -2);
        C.due("to a gone one", x.gift(0, 2, 999), -2);
        C.due("n 0", x.gift(0, 1, 0), -1);
        C.due("n below 0", x.gift(0, 2, -5), -1);
        C.due("n 1000", x.gift(0, 1, 1000), -1);
        C.due("to itself", x.gift(2, 2, 1), -1);
        C.due("no such house", x.gift(2, 3, 1), -1);
        C.due("no such house", x.gift(-1, 0, 1), -1);
        C.due("deeds", x.count(9), 2);
        DebtStreet y = Checks.told("street row;house 0 spends 0 cash 999;house 0 spends 0;");
        C.due("n 999", y.gift(0, 1, 999), 0);
        C.due("given", y.household(1, 2), 999);
    }

    private static void plant() {
        DebtStreet x = Checks.told(THREE);
        C.due("plant", x.plant(0, 20), 2);
        C.due("planted", x.house(0, 1), 20);
        C.due("in place of what there is", x.plant(0, 0), 20);
        C.due("planted", x.house(0, 1), 0);
        C.refused("21", A, () -> x.plant(0, 21));
        C.refused("-1", A, () -> x.plant(0, -1));
        C.refused("no such house", N, () -> x.plant(3, 21));
        C.due("where one is gone", x.plant(2, 1), 0);
        C.due("deeds", x.count(9), 3);
    }

    private static void payOff() {
        DebtStreet x = Checks.told(THREE);
        C.due("payOff", x.payOff(0, 5), 5);
        C.due("cash", x.household(0, 2), 15);
        C.due("debt", x.house(0, 0), 25);
        C.due("more than its cash", x.payOff(0, 16), 15);
        C.due("debt", x.house(0, 0), 10);
        C.due("no cash", x.payOff(0, 1), -3);
        C.due("more than its debt", x.payOff(1, 999), 25);
        C.due("cash", x.household(1, 2), 15);
        C.due("no debt", x.payOff(1, 1), -3);
        C.due("gone", x.payOff(2, 1), -2);
        C.due("no such house", x.payOff(3, 1), -1);
        C.due("no such house", x.payOff(-1, 1), -1);
        C.due("n 0", x.payOff(2, 0), -1);
        C.due("n 1000", x.payOff(1, 1000), -1);
        C.due("deeds", x.count(9), 3);
    }

    private static void quarters() {
        DebtStreet x = Checks.told("street row;limit 10;house 0 spends 4;house 9 spends 0 owes 11;house 0 spends 2;");
        C.refused("0", A, () -> x.quarters(0));
        C.refused("100", A, () -> x.quarters(100));
        C.refused("-1", A, () -> x.quarters(-1));
        C.due("no deed", x.count(9), 0);
        C.due("nobody", x.quarters(3), 0);
        C.due("quarter", x.count(7), 3);
        C.due("one deed", x.count(9), 1);
        C.due("99", x.quarters(99), 0);
        C.due("quarter", x.count(7), 102);
        x.undo(2);
        C.due("quarter", x.count(7), 0);
        C.due("debt", x.house(1, 0), 11);
        DebtStreet y = Checks.told("street ring;limit 10;house 0 spends 4;house 0 spends 4;house 0 spends 4;");
        C.due("not yet", y.quarters(2), 0);
        C.due("all at once", y.quarters(1), 3);
        C.due("nobody is left", y.quarters(1), 0);
    }

    private static void undo() {
        DebtStreet x = Checks.told(THREE);
        C.refused("none", A, () -> x.undo(1));
        for (int n = 1; n <= 12; n++) {
            x.plant(1, n);
        }
        C.due("ten at most", x.count(9), 10);
        C.refused("0", A, () -> x.undo(0));
        C.refused("11", A, () -> x.undo(11));
        C.due("the latest first", x.undo(3), 7);
        C.due("as ahead of these", x.house(1, 1), 9);
        C.refused("8", A, () -> x.undo(8));
        C.due("all", x.undo(7), 0);
        C.due("the eldest are forgotten", x.house(1, 1), 2);
        x.quarters(1);
        C.due("swap", x.swap(0, 1), 5);
        C.due("gift", x.gift(0, 1, 1), 13);
        C.due("payOff", x.payOff(0, 9), 5);
        C.due("four", x.undo(4), 0);
        int[] all = {5, 3, 1, 66, 60, 0, 500, 0, 1, 0};
        for (int what = 0; what < all.length; what++) {
            C.due("count(" + what + ")", x.count(what), all[what]);
        }
        C.due("hedge", x.house(0, 1), 2);
        DebtStreet row = Checks.told("street row;house 0 spends 9 cash 1;");
        row.quarters(20);
        C.due("came to the sea", row.count(5), 179);
        row.undo(1);
        C.due("nothing came to the sea", row.count(5), 0);
        C.due("cash", row.household(0, 2), 1);
    }

    private static void judge() {
        DebtStreet x = Checks.told(THREE);
        Checks.fill(x, 3, 1, 1, 102, 200, 310, -1, 22, -1);
        // swapped: house 0 has earns 5, cash 40, debt 30; house 1 earns 10, cash 20, debt 25
        C.due("the place", x.judge(3, 0), 5);
        C.due("why", x.judge(3, 1), 1);
        // house 0 pays off 30 and gets 10: cash 20; house 1: cash 10. A quarter: house 0 has 19 and no debt;
        // house 1: 10 + 5 = 15, pays 15 of 25: 10, hedged off from house 2; house 2: 11 stays off the hedge of house 0
        C.due("debt", x.judge(3, 2), 21);
        C.due("quarter", x.judge(3, 3), 1);
        C.due("nothing is done", x.count(9), 0);
        C.due("nothing is done", x.count(3), 66);
        Checks.fill(x, 0, 2);
        C.due("an empty tray: place", x.judge(0, 0), -1);
        C.due("why", x.judge(0, 1), 0);
        C.due("debt", x.judge(0, 2), 66);
        C.due("quarter", x.judge(0, 3), 0);
        Checks.fill(x, 1, 0, -1, -1, -1);
        C.due("place", x.judge(1, 0), -1);
        C.due("quarter", x.judge(1, 3), 3);
        C.refused("tray 4", N, () -> x.judge(4, 9));
        C.refused("tray -1", N, () -> x.judge(-1, 9));
        C.refused("missing", S, () -> x.judge(2, 9));
        C.refused("what 4", A, () -> x.judge(0, 4));
        C.refused("what -1", A, () -> x.judge(0, -1));
    }

    private static void perform() {
        DebtStreet x = Checks.told(THREE);
        Checks.fill(x, 3, 1, 1, 102, 200, 310, -1, 22, -1);
        C.due("till one can't be", x.perform(3), 5);
        C.due("each a deed", x.count(9), 5);
        C.due("debt", x.count(3), 21);
        C.due("quarter", x.count(7), 1);
        C.due("hedge", x.house(2, 1), 3);
        C.due("undone", x.undo(5), 0);
        C.due("debt", x.count(3), 66);
        Checks.fill(x, 2, 3, -1, -1, -1, -1, -1, -1, -1, -1, -1, -1, -1, -1);
        C.due("all", x.perform(2), 12);
        C.due("ten at most", x.count(9), 10);
        C.due("quarter", x.count(7), 12);
        Checks.fill(x, 2, 3);
        C.due("an empty tray", x.perform(2), 0);
        C.refused("tray 4", N, () -> x.perform(4));
        C.refused("missing", S, () -> x.perform(1));
    }

    private static void toldNumbers() {
        // {deed, why it can't be} in THREE: house 2's household is gone
        long[][] all = {{0, 1}, {1, 0}, {2, 0}, {3, 1}, {10, 0}, {11, 1}, {20, 0}, {30, 1}, {99, 1}, {100, 0}, {102, 0},
            {103, 1}, {109, 1}, {110, 1}, {199, 1}, {200, 0}, {201, 0}, {202, 2}, {203, 1}, {209, 1}, {210, 1},
            {211, 1}, {299, 1}, {300, 1}, {301, 0}, {302, 2}, {303, 1}, {310, 0}, {320, 2}, {330, 1}, {399, 1},
            {400, 1}, {401, 1}, {-1, 0}, {-2, 1}, {-100, 1}, {Long.MAX_VALUE, 1}, {Long.MIN_VALUE, 1},
            {1L << 32, 1}, {(1L << 32) - 1, 1}, {(1L << 32) + 1, 1}};
        for (long[] deed : all) {
            DebtStreet x = Checks.told(THREE);
            Checks.fill(x, 0, 3, deed[0]);
            C.due("why of " + deed[0], x.judge(0, 1), deed[1]);
            C.due("the place of " + deed[0], x.judge(0, 0), deed[1] == 0 ? -1 : 0);
            C.due("done " + deed[0], x.perform(0), deed[1] == 0 ? 1 : 0);
        }
        DebtStreet x = Checks.told("street row;house 0 spends 0 cash 9 owes 5;house 0 spends 0 cash 10;"
                + "house 0 spends 0 owes 5;");
        Checks.fill(x, 0, 2, 301);
        C.due("hasn't so much", x.judge(0, 1), 3);
        Checks.fill(x, 0, 2, 201);
        C.due("there is no debt", x.judge(0, 1), 3);
        Checks.fill(x, 0, 2, 202);
        C.due("it has no cash", x.judge(0, 1), 3);
        Checks.fill(x, 0, 2, 310, 200, 104 - 4);
        C.due("all", x.perform(0), 3);
        C.due("cash", x.household(0, 2), 14);
        C.due("debt", x.house(0, 0), 0);
        C.due("hedge", x.house(0, 1), 4);
        // all it can: more than 999 too
        DebtStreet rich = Checks.told("street ring;house 99 spends 0 cash 999 hedge 20;house 99 spends 0 empty owes 999;"
                + "grows:900;pays:0;");
        rich.quarters(19);
        rich.swap(0, 1);
        Checks.fill(rich, 0, 2, 201);
        C.due("pays off", rich.perform(0), 1);
        C.due("cash", rich.household(1, 2), 0);
        C.due("debt", rich.house(1, 0), 999 + 19 * 900 - 999 - 19 * 99);
    }

    private static void year() {
        DebtStreet x = Checks.told(THREE);
        C.refused("0 times", A, () -> x.year(1, 0));
        C.refused("31 times", A, () -> x.year(1, 31));
        C.due("nothing is done", x.count(9), 0);
        DebtStreet none = new DebtStreet();
        int draw = 77;
        int quarters = 0;
        for (int i = 0; i < 30; i++) {
            draw = 1103515245 * draw + 12345;
            quarters += (draw >>> 16) % 6 < 2 ? 1 : 0;
        }
        C.due("one time", x.year(0, 1), 1);
        C.due("a quarter", x.count(7), 1);
        C.due("without houses", none.year(77, 30), quarters);
        C.due("quarters alone", none.count(7), quarters);
        C.due("deeds", none.count(9), Math.min(10, quarters));
    }

    private static int draw = 0;

    private static int next(int modulo) {
        draw = 1103515245 * draw + 12345;
        return (draw >>> 16) % modulo;
    }

    /** A year is the same as its deeds, one after the other. */
    private static void yearByHand() {
        for (int seed = -40; seed < 40; seed++) {
            DebtStreet x = Checks.told(THREE);
            DebtStreet y = Checks.told(THREE);
            draw = seed * 7919;
            int done = 0;
            for (int i = 0; i < 9; i++) {
                int sort = next(6);
                if (sort < 2) {
                    y.quarters(1);
                    done++;
                } else if (sort == 3) {
                    y.plant(next(3), 4);
                    done++;
                } else if (sort == 4) {
                    done += y.payOff(next(3), 999) >= 0 ? 1 : 0;
                } else {
                    int g = next(3);
                    int h = next(3);
                    done += (sort == 2 ? y.swap(g, h) : y.gift(g, h, 10)) >= 0 ? 1 : 0;
                }
            }
            C.due("year of " + seed, x.year(seed * 7919, 9), done);
            for (int what = 0; what < 10; what++) {
                C.due("count(" + what + ") of " + seed, x.count(what), y.count(what));
            }
            for (int h = 0; h < 3; h++) {
                for (int what = 0; what < 4; what++) {
                    C.due("household of " + seed, x.household(h, what), y.household(h, what));
                }
                C.due("debt of " + seed, x.house(h, 0), y.house(h, 0));
                C.due("hedge of " + seed, x.house(h, 1), y.house(h, 1));
            }
        }
    }
}
