import java.util.NoSuchElementException;

/** Promises 5 to 9: house, household, pays, grows, takes; and what a quarter does, step by step. */
public final class StreetTest {
    private static final Checks C = new Checks();
    private static final Class<NoSuchElementException> N = NoSuchElementException.class;
    private static final Class<IllegalArgumentException> A = IllegalArgumentException.class;
    private static final Class<IllegalStateException> S = IllegalStateException.class;

    public static void main(String[] args) {
        house();
        household();
        pays();
        grows();
        takes();
        earning();
        going();
        ruin();
        caps();
        C.end("StreetTest");
    }

    private static void house() {
        DebtStreet row = Checks.told("street row;house 1 spends 2 owes 3 hedge 4;house 5 spends 6 owes 7;");
        C.due("debt", row.house(0, 0), 3);
        C.due("hedge", row.house(0, 1), 4);
        C.due("next", row.house(0, 2), 1);
        C.due("debt", row.house(1, 0), 7);
        C.due("hedge", row.house(1, 1), 0);
        C.due("the sea", row.house(1, 2), -1);
        C.refused("house(2, 0)", N, () -> row.house(2, 0));
        C.refused("house(-1, 0)", N, () -> row.house(-1, 0));
        C.refused("house(MAX, 0)", N, () -> row.house(Integer.MAX_VALUE, 0));
        C.refused("house(0, 3)", A, () -> row.house(0, 3));
        C.refused("house(0, -1)", A, () -> row.house(0, -1));
        C.refused("house(2, 3)", N, () -> row.house(2, 3));
        DebtStreet ring = Checks.told("street ring;house 1 spends 2;house 1 spends 2;house 1 spends 2;");
        C.due("next", ring.house(1, 2), 2);
        C.due("the ring", ring.house(2, 2), 0);
    }

    private static void household() {
        DebtStreet x = Checks.told("street row;house 1 spends 2 cash 3;house 4 spends 5 empty cash 6;");
        int[][] want = {{1, 2, 3, 0}, {4, 5, 0, 1}};
        for (int h = 0; h < 2; h++) {
            for (int what = 0; what < 4; what++) {
                C.due("household(" + h + ", " + what + ")", x.household(h, what), want[h][what]);
            }
        }
        C.refused("household(2, 0)", N, () -> x.household(2, 0));
        C.refused("household(-1, 9)", N, () -> x.household(-1, 9));
        C.refused("household(0, 4)", A, () -> x.household(0, 4));
        C.refused("household(0, -1)", A, () -> x.household(0, -1));
    }

    private static void pays() {
        String two = "house 7 spends 3 cash 50 owes 20;house 7 spends 3 cash 20 owes 50;house 1 spends 1 empty owes 9;";
        DebtStreet free = Checks.told("street row;" + two);
        C.due("all the debt", free.pays(0), 20);
        C.due("all the cash", free.pays(1), 20);
        C.refused("of a gone one", S, () -> free.pays(2));
        C.refused("pays(3)", N, () -> free.pays(3));
        C.refused("pays(-1)", N, () -> free.pays(-1));
        C.due("debt", paid("debt-1"), 19);
        C.due("cash", paid("cash-40"), 10);
        C.due("earns", paid("earns"), 7);
        C.due("spends", paid("spends"), 3);
        C.due("house", paid("house+2"), 2);
        C.due("quarter", paid("quarter"), 13);
        C.due("0 at least", paid("0-5"), 0);
        C.due("its debt at most", paid("cash"), 20);
        DebtStreet poor = Checks.told("street row;pays:900;" + two);
        C.due("its cash at most", poor.pays(1), 20);
        C.due("nothing is paid by asking", poor.house(1, 0), 50);
    }

    private static int paid(String law) {
        return Checks.told("street row;house 7 spends 3 cash 50 owes 20;quarter 13;pays:" + law + ";").pays(0);
    }

    private static void grows() {
        DebtStreet x = Checks.told("street row;house 1 spends 1 owes 50;house 1 spends 1;grows:debt+house*100+quarter;"
                + "quarter 7;");
        C.due("grows", x.grows(0, 10), 17);
        C.due("of its house", x.grows(1, 10), 117);
        C.due("of 0", x.grows(1, 0), 0);
        C.due("999 at most", x.grows(1, 900), 999);
        C.due("of much", x.grows(0, 999_999), 999);
        C.refused("d", A, () -> x.grows(0, 1_000_000));
        C.refused("d", A, () -> x.grows(0, -1));
        C.refused("h", N, () -> x.grows(2, -1));
        C.due("0 at least", Checks.told("street row;house 1 spends 1;grows:5-debt;").grows(0, 6), 0);
        C.due("without a law", Checks.told("street row;house 1 spends 1;").grows(0, 6), 0);
        x.quarters(99);
        for (int i = 0; i < 10; i++) {
            x.quarters(99);
        }
        C.due("the quarter", x.count(7), 7 + 11 * 99);
        C.due("quarter modulo 1,000", x.grows(0, 1), 97);
    }

    private static void takes() {
        String two = "house 1 spends 1 cash 5 owes 30;house 2 spends 2 cash 6 owes 40 hedge 9;quarter 8;";
        DebtStreet x = Checks.told("street row;takes:debt<own;" + two);
        C.due("hedges aside", x.takes(0, 39), true);
        C.due("own: of the next one", x.takes(0, 40), false);
        C.due("of 0", x.takes(0, 0), true);
        C.due("the sea", x.takes(1, 999_999), true);
        C.refused("d", A, () -> x.takes(0, 1_000_000) ? 1 : 0);
        C.refused("d of the sea", A, () -> x.takes(1, -1) ? 1 : 0);
        C.refused("h", N, () -> x.takes(2, -1) ? 1 : 0);
        DebtStreet ring = Checks.told("street ring;takes:cash=6 and house=1 and own=40 and quarter=8;" + two);
        C.due("all of the next one", ring.takes(0, 1), true);
        C.due("and of house 0", ring.takes(1, 1), false);
        DebtStreet back = Checks.told("street ring;takes:cash=5 and house=0 and own=30;" + two);
        C.due("ring", back.takes(1, 1), true);
        DebtStreet gone = Checks.told("street row;takes:cash=0;house 1 spends 1;house 9 spends 0 empty cash 5;");
        C.due("cash of a gone one", gone.takes(0, 1), true);
        C.due("without a law", Checks.told("street ring;house 1 spends 1;").takes(0, 0), true);
        DebtStreet alone = Checks.told("street ring;takes:own=debt;house 0 spends 0 owes 5;");
        C.due("own stays as it is", alone.takes(0, 6), false);
        C.due("own", alone.takes(0, 5), true);
    }

    /** (1) to (3): earns, spends, pays, grows. */
    private static void earning() {
        DebtStreet x = Checks.told("street ring;takes:1=2;grows:debt*2+quarter;pays:cash-5;quarter 4;limit 999;"
                + "house 30 spends 10 cash 2 owes 40;house 10 spends 30 cash 2 owes 40;house 9 spends 0 empty owes 1;"
                + "house 9 spends 0 cash 1;");
        C.due("nobody is ruined", x.quarters(1), 0);
        C.due("quarter", x.count(7), 5);
        // 2 + 30 - 10 = 22, pays 17 of 40: 23 is left and grows by 50
        C.due("cash", x.household(0, 2), 5);
        C.due("debt", x.house(0, 0), 73);
        // 2 + 10 - 30 = -18: the debt is 58, there is nothing to pay; it grows by 120
        C.due("cash", x.household(1, 2), 0);
        C.due("debt", x.house(1, 0), 178);
        // who is gone earns nothing and pays nothing, but the debt grows
        C.due("cash", x.household(2, 2), 0);
        C.due("debt", x.house(2, 0), 7);
        // no debt, nothing to pay, nothing that grows
        C.due("cash", x.household(3, 2), 10);
        C.due("debt", x.house(3, 0), 0);
    }

    /** (4): where debts go. */
    private static void going() {
        String three = "house 0 spends 0 owes 1;house 0 spends 0 owes 20;house 0 spends 0 owes 300;";
        DebtStreet row = Checks.told("street row;limit 999;" + three);
        row.quarters(1);
        debts("row", row, 0, 1, 20);
        C.due("the sea", row.count(5), 300);
        DebtStreet ring = Checks.told("street ring;limit 999;" + three);
        ring.quarters(1);
        debts("ring", ring, 300, 1, 20);
        C.due("no sea", ring.count(5), 0);
        DebtStreet hedged = Checks.told("street ring;limit 999;house 0 spends 0 owes 1;house 0 spends 0 owes 20 hedge 2;"
                + "house 0 spends 0 owes 300;");
        hedged.quarters(1);
        debts("hedged", hedged, 301, 0, 20);
        C.due("a quarter less", hedged.house(1, 1), 1);
        hedged.quarters(1);
        debts("hedged still", hedged, 321, 0, 0);
        C.due("no more", hedged.house(1, 1), 0);
        hedged.quarters(1);
        debts("no hedge", hedged, 0, 321, 0);
        DebtStreet wary = Checks.told("street ring;limit 999;takes:own<debt;" + three);
        wary.quarters(1);
        // 300 > 1 goes to house 0; 1 < 20 and 20 < 300 stay
        debts("all at once", wary, 301, 20, 0);
        DebtStreet alone = Checks.told("street ring;house 0 spends 0 owes 5 hedge 1;");
        C.due("to itself", alone.burden(0, 2), 5);
        alone.quarters(2);
        C.due("it stays", alone.house(0, 0), 5);
        DebtStreet paid = Checks.told("street ring;takes:cash=3;house 0 spends 0 owes 5;house 3 spends 0 owes 0;");
        paid.quarters(1);
        debts("cash as all is ahead of (4)", paid, 0, 5);
    }

    private static void debts(String name, DebtStreet x, int... want) {
        for (int h = 0; h < want.length; h++) {
            C.due(name + ": debt of " + h, x.house(h, 0), want[h]);
        }
    }

    /** (5): who is ruined. */
    private static void ruin() {
        DebtStreet x = Checks.told("street row;limit 20;house 0 spends 0 owes 21;house 5 spends 0 cash 3 owes 20;"
                + "house 9 spends 0 cash 50;house 1 spends 1 owes 99;");
        C.due("by what came", x.quarters(1), 1);
        C.due("gone", x.household(1, 3), 1);
        C.due("cash", x.household(1, 2), 0);
        C.due("house 0 is rid of it", x.household(0, 3), 0);
        C.due("the last is rid of it", x.household(3, 3), 0);
        C.due("the debt is left", x.house(1, 0), 21);
        C.due("as much as the limit", x.house(2, 0), 12);
        // the 21 go on: to house 2, to house 3, to the sea
        C.due("one after the other", x.quarters(3), 2);
        C.due("gone for good", x.household(1, 3), 1);
        C.due("count(2)", x.count(2), 3);
        C.due("earns no more", x.household(1, 2), 0);
        DebtStreet zero = Checks.told("street ring;limit 0;house 0 spends 1;house 1 spends 1;");
        C.due("limit 0", zero.quarters(1), 1);
        C.due("the next one", zero.household(1, 3), 1);
    }

    private static void caps() {
        DebtStreet x = Checks.told("street ring;grows:999;house 0 spends 99 owes 999;house 99 spends 0 empty owes 999;");
        for (int i = 0; i < 6; i++) {
            x.quarters(99);
        }
        C.due("not yet", x.house(0, 0) < 999_999, true);
        for (int i = 0; i < 6; i++) {
            x.quarters(99);
        }
        C.due("debt at most", x.house(0, 0), 999_999);
        C.due("debt at most", x.house(1, 0), 999_999);
        C.due("in sum", x.count(3), 1_999_998);
        C.due("swap", x.swap(0, 1), 1_999_998);
        C.due("burden", x.burden(0, 20), 19_999_980);
        DebtStreet sea = Checks.told("street row;grows:999;house 0 spends 99;");
        sea.quarters(1);
        C.due("came to the sea", sea.count(5), 1098);
        C.due("to come", sea.seaIn(200), 201 * 1098);
        for (int i = 0; i < 8; i++) {
            sea.quarters(99);
        }
        C.due("came to the sea", sea.count(5), (1 + 8 * 99) * 1098);
        C.due("sea at most", sea.seaIn(200), 999_999);
        sea.quarters(99);
        sea.quarters(99);
        C.due("sea at most", sea.count(5), 999_999);
        C.due("the earner is not ruined", sea.count(2), 0);
    }
}
