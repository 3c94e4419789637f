import java.util.NoSuchElementException;

/** Promises 28 to 32: order, orders, bestSwap, wouldSwap, bestHouse. */
public final class WhoTest {
    private static final Checks C = new Checks();
    private static final Class<NoSuchElementException> N = NoSuchElementException.class;
    private static final Class<IllegalArgumentException> A = IllegalArgumentException.class;
    // A debt of 50 comes to house 1, where only the one who has cash can stand it.
    private static final String POOR = "street row;limit 40;house 0 spends 0 owes 50;house 0 spends 0 owes 30 hedge 1;"
            + "house 0 spends 0 cash 20;";

    public static void main(String[] args) {
        bounds();
        order();
        asSwapped();
        bestSwap();
        wouldSwap();
        bestHouse();
        C.end("WhoTest");
    }

    private static void bounds() {
        DebtStreet x = Checks.told(POOR);
        for (int n : new int[] {0, 21, -1, Integer.MAX_VALUE}) {
            C.refused("order(" + n + ", 0)", A, () -> x.order(n, 0));
            C.refused("orders(" + n + ")", A, () -> x.orders(n));
            C.refused("bestSwap(" + n + ")", A, () -> x.bestSwap(n));
            C.refused("wouldSwap(" + n + ")", A, () -> x.wouldSwap(n));
            C.refused("bestHouse(0, " + n + ")", A, () -> x.bestHouse(0, n));
        }
        for (int what : new int[] {-1, 1, 9, 17, Integer.MIN_VALUE}) {
            C.refused("order(1, " + what + ")", A, () -> x.order(1, what));
        }
        C.refused("bestHouse(3, 0)", N, () -> x.bestHouse(3, 0));
        C.refused("bestHouse(-1, 1)", N, () -> x.bestHouse(-1, 1));
        DebtStreet none = new DebtStreet();
        C.due("no houses: order", none.order(1, 0), 0);
        C.due("no houses: order", none.order(1, 16), -1);
        C.due("no houses: orders", none.orders(20), 1);
        C.due("no houses: bestSwap", none.bestSwap(1), -1);
        C.due("no houses: wouldSwap", none.wouldSwap(1), -1);
        C.due("seven houses: orders", Checks.told(seven("row")).orders(1), 5040);
        C.due("seven houses: order", Checks.told(seven("ring")).order(20, 16), 6);
    }

    private static String seven(String what) {
        return "street " + what + ";house 0 spends 0;house 0 spends 0;house 0 spends 0;house 0 spends 0;"
                + "house 0 spends 0;house 0 spends 0;house 0 spends 0;";
    }

    private static void order() {
        // What is at house 0 stays there, where 50 are too much, and at house 1 30 are not.
        DebtStreet x = Checks.told(POOR);
        C.due("lost", x.lost(1), 1);
        C.due("fewest", x.order(1, 0), 0);
        C.due("house 0", x.order(1, 10), 2);
        C.due("house 1: of like ones the first", x.order(1, 11), 0);
        C.due("house 2", x.order(1, 12), 1);
        C.due("no such one", x.order(1, 13), -1);
        C.due("no such one", x.order(1, 16), -1);
        C.due("as good", x.orders(1), 2);
        C.due("nothing is done", x.count(9), 0);
        C.due("all live where they did", x.household(2, 2), 20);
        DebtStreet gone = Checks.told("street ring;limit 5;house 0 spends 0 owes 9;house 0 spends 0;"
                + "house 0 spends 0 empty;house 0 spends 0 empty;");
        // In four quarters 9 come by all houses: both are lost, in all 24 orders.
        C.due("lost in all", gone.order(4, 0), 2);
        C.due("all as good", gone.orders(4), 24);
        C.due("the first", gone.order(4, 10), 0);
        C.due("the first", gone.order(4, 13), 3);
        // In one quarter only house 1 is hit: nobody is lost if a gone one lives there.
        C.due("fewest", gone.order(1, 0), 0);
        C.due("as good", gone.orders(1), 12);
        C.due("house 0", gone.order(1, 10), 0);
        C.due("house 1", gone.order(1, 11), 2);
        C.due("house 2", gone.order(1, 12), 1);
        C.due("house 3", gone.order(1, 13), 3);
        asLatest();
        // All seven are lost in all orders.
        DebtStreet all = Checks.told(seven("ring").replace("spends 0;", "spends 9;") + "limit 8;");
        C.due("seven", all.order(1, 0), 7);
        C.due("the first", all.order(1, 16), 6);
        C.due("all as good", all.orders(1), 5040);
        // The same question of another street, behind deeds, and undone.
        gone.swap(1, 2);
        C.due("swapped", gone.order(1, 11), 1);
        gone.undo(1);
        C.due("undone", gone.order(1, 11), 2);
        gone.plant(1, 3);
        C.due("hedged", gone.orders(1), 12);
        gone.quarters(1);
        Checks.tell(gone, "street ring;limit 99;house 0 spends 0 owes 9;house 0 spends 0;");
        C.due("told again", gone.orders(1), 2);
        C.due("told again", gone.order(1, 10), 0);
    }

    /** The same question, when just the quarter or just house 0 is another one. */
    private static void asLatest() {
        DebtStreet x = Checks.told("street row;limit 5;takes:quarter>2;house 0 spends 0 owes 9 hedge 20 empty;"
                + "house 0 spends 0;house 0 spends 0 empty;house 0 spends 0 empty;");
        C.due("all as good", x.orders(1), 18);
        C.due("none is lost", x.order(1, 0), 0);
        C.due("it must not live with the debt", x.order(1, 10), 0);
        x.quarters(3);
        C.due("now the debt goes to house 1", x.order(1, 11), 2);
        C.due("all as good", x.orders(1), 18);
        x.plant(1, 1);
        C.due("and now not", x.order(1, 11), 1);
        DebtStreet y = Checks.told("street row;limit 5;pays:0;house 9 spends 0 owes 9;house 9 spends 0;"
                + "house 0 spends 0 empty;");
        C.due("fewest", y.order(1, 0), 0);
        C.due("a gone one to house 1", y.order(1, 11), 2);
        DebtStreet z = Checks.told("street ring;limit 5;house 0 spends 0;house 0 spends 0 empty;"
                + "house 0 spends 0 owes 9;");
        C.due("a gone one to house 0", z.order(1, 10), 1);
        z.plant(0, 3);
        C.due("not behind a hedge", z.order(1, 10), 0);
        C.due("but to house 2", z.order(1, 12), 1);
        y.plant(1, 1);
        y.plant(0, 1);
        C.due("the debt stays at house 0", y.order(1, 10), 2);
        y.plant(1, 0);
        C.due("the debt goes again", y.order(1, 10), 0);
        y.undo(3);
        C.due("as ahead of these", y.order(1, 11), 2);
    }

    /** By the order that is told as many are lost as when all have swapped there. */
    private static void asSwapped() {
        DebtStreet x = Checks.told("street ring;limit 30;grows:debt-9;house 9 spends 12 owes 25;house 20 spends 3 owes 9;"
                + "house 1 spends 5 cash 90 owes 30;house 5 spends 0 empty owes 3;house 7 spends 6 owes 28 hedge 2;");
        for (int n = 1; n <= 20; n += 4) {
            int fewest = x.order(n, 0);
            int[] from = new int[5];
            for (int k = 0; k < 5; k++) {
                from[k] = x.order(n, 10 + k);
            }
            int[] lives = {0, 1, 2, 3, 4};
            int deeds = 0;
            for (int k = 0; k < 5; k++) {
                int at = k;
                while (lives[at] != from[k]) {
                    at++;
                }
                if (at != k) {
                    x.swap(k, at);
                    lives[at] = lives[k];
                    lives[k] = from[k];
                    deeds++;
                }
            }
            C.due("lost as told in " + n, x.lost(n), fewest);
            C.due("none better in " + n, x.bestSwap(n), -1);
            if (deeds > 0) {
                x.undo(deeds);
            }
        }
    }

    private static void bestSwap() {
        DebtStreet x = Checks.told(POOR);
        C.due("the one with cash to house 0", x.bestSwap(1), 2);
        x.swap(0, 2);
        C.due("none by which there are fewer", x.bestSwap(1), -1);
        DebtStreet gone = Checks.told("street ring;limit 5;house 0 spends 0 owes 9;house 0 spends 0;"
                + "house 0 spends 0;house 0 spends 0 empty;");
        C.due("with a gone one", gone.bestSwap(1), 13);
        C.due("in two quarters: one of 0, 1, 2 is free of it", gone.bestSwap(2), 13);
        C.due("in four: none", gone.bestSwap(4), -1);
        DebtStreet next = Checks.told("street row;limit 5;house 0 spends 0 owes 9 hedge 9;house 0 spends 0;"
                + "house 0 spends 0 empty;house 0 spends 0;");
        C.due("with the next one", next.bestSwap(1), 12);
        C.due("nothing is done", gone.count(9), 0);
    }

    private static void wouldSwap() {
        // Whoever pays all of a debt spares the next one; each of the two has less where the other lived.
        DebtStreet x = Checks.told("street ring;limit 999;house 0 spends 0 owes 50 cash 10;house 0 spends 0 owes 50 cash 60;");
        C.due("burden", x.burden(0, 1), 0);
        C.due("burden", x.burden(1, 1), 40);
        C.due("none would", x.wouldSwap(1), -1);
        DebtStreet y = Checks.told("street row;house 10 spends 5 cash 20 owes 30;house 5 spends 10 owes 40;"
                + "house 20 spends 5 cash 50 hedge 1;limit 60;");
        C.due("burden of 1", y.burden(1, 3), 5);
        C.due("burden of 2", y.burden(2, 3), 60);
        C.due("both would", y.wouldSwap(3), 12);
        y.swap(1, 2);
        C.due("burden of 1, now in 2", y.burden(2, 3) < 5, true);
        C.due("burden of 2, now in 1", y.burden(1, 3) < 60, true);
        C.due("not back", y.wouldSwap(3), -1);
        for (int owes = 9; owes <= 16; owes++) {
            // In a quarter 10 come to house 1, owes to house 2; swapped 10 and owes - 5.
            DebtStreet even = Checks.told("street row;limit 999;house 0 spends 0 owes 10;house 0 spends 0 owes " + owes
                    + ";house 0 spends 0 cash 5;");
            C.due("less for both: " + owes, even.wouldSwap(1), owes > 10 && owes < 15 ? 12 : -1);
        }
        DebtStreet gone = Checks.told("street row;house 10 spends 5 cash 20 owes 30;house 5 spends 10 owes 40 empty;"
                + "house 20 spends 5 cash 50 hedge 1;limit 60;");
        C.due("who is gone would not", gone.wouldSwap(3), -1);
    }

    private static void bestHouse() {
        DebtStreet x = Checks.told("street row;limit 999;house 0 spends 0 owes 20;house 0 spends 0 owes 30;"
                + "house 9 spends 0 cash 50;house 0 spends 0 empty owes 5;");
        C.due("the first house of a row", x.bestHouse(1, 5), 0);
        C.due("staying", x.bestHouse(0, 5), 0);
        C.due("a gone one", x.bestHouse(3, 5), 0);
        C.due("nothing is done", x.household(3, 3), 1);
        DebtStreet ring = Checks.told("street ring;limit 999;house 0 spends 0 owes 50;house 0 spends 0;house 0 spends 0;"
                + "house 0 spends 0;");
        C.due("burden", ring.burden(1, 2), 50);
        C.due("the first of like ones", ring.bestHouse(1, 2), 0);
        C.due("the first of like ones", ring.bestHouse(3, 1), 0);
        ring.quarters(1);
        C.due("1, where the debt is", ring.bestHouse(3, 3), 1);
        ring.quarters(1);
        C.due("the first that it doesn't come by", ring.bestHouse(3, 1), 0);
    }
}
