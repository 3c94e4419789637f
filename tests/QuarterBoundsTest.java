import java.util.NoSuchElementException;

/** The bounds that the document names for a quarter and its laws, and promises 5 to 9. */
public final class QuarterBoundsTest {
    private static final Checks C = new Checks();
    private static final Class<NoSuchElementException> N = NoSuchElementException.class;
    private static final Class<IllegalArgumentException> A = IllegalArgumentException.class;
    private static final Class<IllegalStateException> S = IllegalStateException.class;
    private static final int[] NOT_OF_TWO = {-1, 2, 7, Integer.MIN_VALUE, Integer.MAX_VALUE};

    public static void main(String[] args) {
        whatOfAHouse();
        whatOfAHousehold();
        theNextHouse();
        cashAtZero();
        paysAtLeastAndAtMost();
        paysWhenGone();
        growsAtLeastAndAtMost();
        growsIfThereIsAny();
        takesWithinItsBounds();
        goesIfThereIsAny();
        hedgesLast();
        theSeaAlways();
        wordsOfTheNextOne();
        aboveTheLimit();
        goneForGood();
        quarterModuloAThousand();
        comparisons();
        keptToAMillion();
        debtAtMost();
        debtThatCameAtMost();
        seaAtMost();
        cashAtMost();
        C.end("QuarterBoundsTest");
    }

    /** Promise 5: what 0 to 2; "no such HOUSE (as everywhere)". */
    private static void whatOfAHouse() {
        DebtStreet x = Checks.told("street row;house 1 spends 2 owes 3 hedge 4;house 5 spends 6 owes 7 hedge 8;");
        int[][] want = {{3, 4, 1}, {7, 8, -1}};
        for (int h = 0; h < 2; h++) {
            int at = h;
            for (int what = 0; what < 3; what++) {
                C.due("house(" + h + ", " + what + ")", x.house(h, what), want[h][what]);
            }
            for (int what : new int[] {-1, 3, Integer.MIN_VALUE, Integer.MAX_VALUE}) {
                C.refused("house(" + h + ", " + what + ")", A, () -> x.house(at, what));
            }
        }
        for (int h : NOT_OF_TWO) {
            C.refused("house(" + h + ", 0)", N, () -> x.house(h, 0));
            C.refused("told first: house(" + h + ", 3)", N, () -> x.house(h, 3));
        }
    }

    /** Promise 6: what 0 to 3. */
    private static void whatOfAHousehold() {
        DebtStreet x = Checks.told("street row;house 1 spends 2 cash 3;house 4 spends 5 cash 6 empty;");
        int[][] want = {{1, 2, 3, 0}, {4, 5, 0, 1}};
        for (int h = 0; h < 2; h++) {
            int at = h;
            for (int what = 0; what < 4; what++) {
                C.due("household(" + h + ", " + what + ")", x.household(h, what), want[h][what]);
            }
            for (int what : new int[] {-1, 4, Integer.MIN_VALUE, Integer.MAX_VALUE}) {
                C.refused("household(" + h + ", " + what + ")", A, () -> x.household(at, what));
            }
        }
        for (int h : NOT_OF_TWO) {
            C.refused("household(" + h + ", 0)", N, () -> x.household(h, 0));
            C.refused("told first: household(" + h + ", 4)", N, () -> x.household(h, 4));
        }
    }

    /** "of the last one HOUSE 0 in a ring, in a row the SEA": of one house, and of seven. */
    private static void theNextHouse() {
        for (int many = 1; many <= 7; many++) {
            DebtStreet row = Checks.told("street row;" + "house 0 spends 0 owes 1;".repeat(many));
            DebtStreet ring = Checks.told("street ring;" + "house 0 spends 0 owes 1;".repeat(many));
            for (int h = 0; h < many; h++) {
                C.due("row of " + many, row.house(h, 2), h < many - 1 ? h + 1 : -1);
                C.due("ring of " + many, ring.house(h, 2), h < many - 1 ? h + 1 : 0);
                C.due("row of " + many + ": comes to " + h, row.burden(h, 1), h == 0 ? 0 : 1);
                C.due("ring of " + many + ": comes to " + h, ring.burden(h, 1), 1);
            }
            C.due("row of " + many + ": the sea", row.seaIn(1), 1);
            C.due("ring of " + many + ": no sea", ring.seaIn(1), 0);
            C.due("ring of " + many + ": debt", ring.debtIn(0, 1), 1);
        }
    }

    /** (1): "as much as CASH is below 0 its HOUSE's DEBT is more, CASH 0." */
    private static void cashAtZero() {
        // {earns, spends, cash, cash then, debt then}
        int[][] all = {{0, 5, 6, 1, 0}, {0, 5, 5, 0, 0}, {0, 5, 4, 0, 1}, {0, 5, 0, 0, 5}, {0, 0, 0, 0, 0}, {99, 99, 0, 0, 0},
            {98, 99, 0, 0, 1}, {99, 98, 0, 1, 0}, {0, 99, 0, 0, 99}, {99, 0, 999, 1098, 0}, {3, 10, 7, 0, 0}, {3, 10, 6, 0, 1}};
        for (int[] a : all) {
            DebtStreet x = Checks.told("street ring;house " + a[0] + " spends " + a[1] + " cash " + a[2] + ";");
            C.due("cashIn of " + a[0] + " " + a[1] + " " + a[2], x.cashIn(0, 1), a[3]);
            x.quarters(1);
            C.due("cash of " + a[0] + " " + a[1] + " " + a[2], x.household(0, 2), a[3]);
            C.due("debt of " + a[0] + " " + a[1] + " " + a[2], x.house(0, 0), a[4]);
        }
        DebtStreet gone = Checks.told("street ring;limit 0;house 99 spends 0 empty;house 0 spends 99 empty;");
        gone.quarters(20);
        for (int h = 0; h < 2; h++) {
            C.due("who is gone earns nothing", gone.household(h, 2), 0);
            C.due("who is gone spends nothing", gone.house(h, 0), 0);
        }
    }

    /** (2): "0 at least, its CASH and its HOUSE's DEBT at most (without one: as much as it can)". */
    private static void paysAtLeastAndAtMost() {
        // {what the law tells, cash, debt, what is paid}
        int[][] all = {{-1, 10, 20, 0}, {0, 10, 20, 0}, {1, 10, 20, 1}, {9, 10, 20, 9}, {10, 10, 20, 10}, {11, 10, 20, 10},
            {20, 10, 20, 10}, {999, 10, 20, 10}, {9, 20, 10, 9}, {10, 20, 10, 10}, {11, 20, 10, 10}, {20, 20, 10, 10},
            {5, 0, 10, 0}, {5, 10, 0, 0}, {5, 0, 0, 0}, {5, 1, 1, 1}, {999, 999, 999, 999}, {998, 999, 999, 998}};
        for (int[] a : all) {
            String law = a[0] < 0 ? "0-" + -a[0] : "" + a[0];
            String house = "house 0 spends 0 cash " + a[1] + " owes " + a[2] + ";";
            DebtStreet x = Checks.told("street ring;limit 999;pays:" + law + ";" + house);
            C.due("pays by " + law + " of " + house, x.pays(0), a[3]);
            C.due("paid by " + law + " of " + house, x.paid(1), a[3]);
            x.quarters(1);
            C.due("cash then", x.household(0, 2), a[1] - a[3]);
            C.due("debt then", x.house(0, 0), a[2] - a[3]);
            DebtStreet free = Checks.told("street ring;limit 999;" + house);
            C.due("pays without a law", free.pays(0), Math.min(a[1], a[2]));
            C.due("paid without a law", free.paid(1), Math.min(a[1], a[2]));
        }
        // As if it had just this cash: what it earns comes with the quarter.
        DebtStreet earner = Checks.told("street ring;house 5 spends 0 cash 1 owes 20;house 0 spends 5 cash 9 owes 20;");
        C.due("this cash", earner.pays(0), 1);
        C.due("this cash", earner.pays(1), 9);
        C.due("in a quarter", earner.paid(1), 6 + 4);
    }

    /** Promise 7: "IllegalStateException: it is GONE". */
    private static void paysWhenGone() {
        DebtStreet x = Checks.told("street ring;limit 9;house 0 spends 0 owes 9;house 0 spends 10;");
        C.due("not gone", x.pays(0), 0);
        C.due("not gone yet", x.pays(1), 0);
        x.quarters(1);
        C.due("as much as the limit: not gone", x.pays(1), 0);
        C.refused("ruined by what came", S, () -> x.pays(0));
        x.swap(0, 1);
        C.refused("wherever it lives", S, () -> x.pays(1));
        C.due("and the other one", x.pays(0), 0);
        for (int h : NOT_OF_TWO) {
            C.refused("pays(" + h + ")", N, () -> x.pays(h));
        }
    }

    /** Promise 8, (3): "0 at least, 999 at most"; "d (0 to 999,999)", "(0: of 0)". */
    private static void growsAtLeastAndAtMost() {
        String[] laws = {"0-999*999", "0-1", "0", "1", "998", "999", "999+1", "999*999"};
        int[] want = {0, 0, 0, 1, 998, 999, 999, 999};
        for (int i = 0; i < laws.length; i++) {
            DebtStreet x = Checks.told("street ring;grows:" + laws[i] + ";house 0 spends 0 owes 1;house 0 spends 0;");
            C.due("grows by " + laws[i], x.grows(0, 1), want[i]);
            C.due("grows much by " + laws[i], x.grows(0, 999_999), want[i]);
            C.due("of 0 by " + laws[i], x.grows(0, 0), 0);
            C.due("in a quarter by " + laws[i], x.debtIn(1, 1), 1 + want[i]);
            C.due("where there is none by " + laws[i], x.debtIn(0, 1), 0);
        }
        DebtStreet x = Checks.told("street ring;grows:debt-999*999-999-990;house 0 spends 0;house 0 spends 0 empty;");
        C.due("of 999,999", x.grows(0, 999_999), 9);
        C.due("of 999,998, of a gone one's", x.grows(1, 999_998), 8);
        for (int d : new int[] {-1, 1_000_000, Integer.MIN_VALUE, Integer.MAX_VALUE}) {
            C.refused("grows(0, " + d + ")", A, () -> x.grows(0, d));
            C.refused("told first: grows(2, " + d + ")", N, () -> x.grows(2, d));
        }
        for (int h : NOT_OF_TWO) {
            C.refused("grows(" + h + ", 0)", N, () -> x.grows(h, 0));
        }
    }

    /** (3): "Each HOUSE's DEBT, if there is any": 1 left does, 0 left doesn't; a gone one's, too. */
    private static void growsIfThereIsAny() {
        for (int cash = 4; cash <= 7; cash++) {
            DebtStreet x = Checks.told("street ring;grows:50;house 0 spends 0 cash " + cash + " owes 6;");
            C.due("6 owed, cash " + cash, x.debtIn(0, 1), cash < 6 ? 6 - cash + 50 : 0);
        }
        DebtStreet gone = Checks.told("street ring;grows:50;house 0 spends 0 empty owes 1;house 0 spends 0 empty;");
        C.due("a gone one's 1", gone.debtIn(1, 1), 51);
        C.due("a gone one's 0", gone.debtIn(0, 1), 0);
    }

    /** Promise 9: "d (0 to 999,999)", "HEDGES aside (true: the SEA)". */
    private static void takesWithinItsBounds() {
        String two = "house 0 spends 0;house 0 spends 0 hedge 20;";
        DebtStreet x = Checks.told("street row;takes:debt>999*999+999+997;" + two);
        C.due("of 999,997", x.takes(0, 999_997), false);
        C.due("of 999,999", x.takes(0, 999_999), true);
        C.due("of 0", x.takes(0, 0), false);
        C.due("the sea, of 0", x.takes(1, 0), true);
        C.due("the sea, of 999,999", x.takes(1, 999_999), true);
        for (int d : new int[] {-1, 1_000_000, Integer.MIN_VALUE, Integer.MAX_VALUE}) {
            for (int h = 0; h < 2; h++) {
                int at = h;
                C.refused("takes(" + h + ", " + d + ")", A, () -> x.takes(at, d) ? 1 : 0);
            }
            C.refused("told first: takes(2, " + d + ")", N, () -> x.takes(2, d) ? 1 : 0);
        }
        for (int h : NOT_OF_TWO) {
            C.refused("takes(" + h + ", 0)", N, () -> x.takes(h, 0) ? 1 : 0);
        }
        DebtStreet none = Checks.told("street ring;takes:1=2;" + two);
        C.due("never", none.takes(0, 0) || none.takes(1, 0) || none.takes(0, 999_999) || none.takes(1, 999_999), false);
        DebtStreet sea = Checks.told("street row;takes:1=2;" + two);
        C.due("the sea always", sea.takes(1, 5), true);
        C.due("but not house 1", sea.takes(0, 5), false);
        DebtStreet one = Checks.told("street ring;takes:own<debt;house 0 spends 0 owes 5;");
        C.due("its own next one", one.takes(0, 5), false);
        C.due("its own next one", one.takes(0, 6), true);
    }

    /** (4): "if there is any"; a debt of 1 goes, and what stays is none that goes. */
    private static void goesIfThereIsAny() {
        DebtStreet x = Checks.told("street ring;takes:debt<2;house 0 spends 0 owes 1;house 0 spends 0;house 0 spends 0 owes 2;");
        int[] goes = {0, 1, 0};
        int[] debts = {0, 1, 2};
        for (int h = 0; h < 3; h++) {
            C.due("goes to " + h, x.burden(h, 1), goes[h]);
            C.due("debt then of " + h, x.debtIn(h, 1), debts[h]);
        }
        C.due("the most goes to house 1", x.heaviest(1), 1);
    }

    /** (4): "if that has no HEDGE"; "HEDGES last a QUARTER less": 1 holds one quarter, 20 hold twenty, 0 none. */
    private static void hedgesLast() {
        for (int hedge = 0; hedge <= 20; hedge++) {
            DebtStreet x = Checks.told("street row;house 0 spends 0 owes 7;house 0 spends 0 hedge " + hedge + ";");
            if (hedge > 0) {
                C.due("held as long as " + hedge, x.debtIn(0, hedge), 7);
                C.due("nothing came", x.debtIn(1, hedge), 0);
            }
            C.due("no longer than " + hedge, x.debtIn(1, hedge + 1), 7);
            C.due("gone on", x.debtIn(0, hedge + 1), 0);
            for (int i = 0; i <= 21; i++) {
                C.due("hedge of " + hedge + " after " + i, x.house(1, 1), Math.max(hedge - i, 0));
                x.quarters(1);
            }
        }
        // A hedge holds what would come, not what goes.
        DebtStreet own = Checks.told("street ring;house 0 spends 0 owes 7 hedge 1;house 0 spends 0 owes 1;");
        C.due("its own goes", own.debtIn(1, 1), 8);
        C.due("nothing comes", own.debtIn(0, 1), 0);
        DebtStreet one = Checks.told("street ring;house 0 spends 0 owes 7 hedge 1;");
        C.due("to itself: held", one.burden(0, 1), 0);
        C.due("to itself", one.burden(0, 2), 7);
    }

    /** (4): "(to the SEA always)": whatever the law, whatever its own hedge. */
    private static void theSeaAlways() {
        DebtStreet x = Checks.told("street row;takes:1=2;house 0 spends 0 owes 5;house 0 spends 0 owes 7 hedge 20;");
        C.due("the sea", x.seaIn(1), 7);
        C.due("not house 1", x.debtIn(0, 20), 5);
        C.due("no more", x.seaIn(200), 7);
    }

    /** "house: ... (in takes: of the NEXT one)", "cash: ... of a GONE one 0", "own: DEBT of the NEXT HOUSE". */
    private static void wordsOfTheNextOne() {
        String houses = "house 0 spends 0 cash 4 owes 1;".repeat(6) + "house 0 spends 0 cash 9 owes 30;";
        for (int h = 0; h < 7; h++) {
            for (int k = 0; k < 7; k++) {
                DebtStreet x = Checks.told("street ring;takes:house=" + k + ";" + houses);
                C.due("house " + k + " in takes, from " + h, x.takes(h, 1), k == (h + 1) % 7);
                DebtStreet y = Checks.told("street ring;grows:house+1;pays:house;" + houses);
                C.due("house in grows", y.grows(h, 1), h + 1);
                C.due("house in pays", y.pays(h), h == 6 ? 6 : Math.min(h, 1));
            }
            DebtStreet x = Checks.told("street ring;takes:own=30 and cash=9;" + houses);
            C.due("own and cash, from " + h, x.takes(h, 1), h == 5);
        }
        DebtStreet gone = Checks.told("street ring;limit 8;takes:cash=0 and own=1;pays:0;house 0 spends 0 cash 3 empty owes 1;"
                + "house 0 spends 0 cash 7 owes 1;house 0 spends 9 cash 9 owes 1;house 0 spends 0 cash 5 owes 9;");
        C.due("of one that has cash", gone.takes(0, 1), false);
        C.due("of a gone one", gone.takes(3, 1), true);
        C.due("of one that has cash still", gone.takes(1, 1), false);
        C.due("of another one", gone.takes(2, 1), false);
        gone.quarters(1);
        C.due("house 3 is ruined, its debt gone on", gone.household(3, 3), 0);
    }

    /** (5): "whose HOUSE then has DEBT above LIMIT"; limits 0, 100 where none is told, 999. */
    private static void aboveTheLimit() {
        for (int limit : new int[] {0, 1, 100, 998, 999}) {
            for (int over = -1; over <= 2; over++) {
                int debt = limit + over;
                if (debt < 0) {
                    continue;
                }
                // The debt stays where it is; 0 to 999 of it told, the rest run into.
                int owes = Math.min(debt, 999);
                DebtStreet x = Checks.told("street ring;takes:1=2;" + (limit == 100 ? "" : "limit " + limit + ";")
                        + "house 0 spends " + (debt - owes) + " owes " + owes + ";house 9 spends 0 cash 9;");
                C.due("lost, limit " + limit + ", debt " + debt, x.lost(1), over > 0 ? 1 : 0);
                C.due("ruined, limit " + limit + ", debt " + debt, x.quarters(1), over > 0 ? 1 : 0);
                C.due("gone", x.household(0, 3), over > 0 ? 1 : 0);
                C.due("the debt", x.house(0, 0), debt);
            }
        }
        // Then: what has gone on counts no more, what has come counts.
        DebtStreet then = Checks.told("street row;limit 10;house 0 spends 0 owes 11;house 0 spends 0 owes 11;house 0 spends 0 owes 10;"
                + "house 0 spends 0;");
        // 0, 11, 11, 10 of debt then
        C.due("two", then.quarters(1), 2);
        for (int h = 0; h < 4; h++) {
            C.due("gone: " + h, then.household(h, 3), h == 1 || h == 2 ? 1 : 0);
        }
    }

    /** "GONE for good, CASH 0"; who is gone is ruined no more. */
    private static void goneForGood() {
        DebtStreet x = Checks.told("street row;limit 9;pays:0;house 0 spends 0 owes 10;house 5 spends 0 cash 50;");
        C.due("ruined", x.quarters(1), 1);
        C.due("gone", x.household(1, 3), 1);
        C.due("cash", x.household(1, 2), 0);
        C.due("the debt goes on", x.quarters(3), 0);
        C.due("no debt", x.house(1, 0), 0);
        C.due("gone still", x.household(1, 3), 1);
        C.due("earns nothing", x.household(1, 2), 0);
        DebtStreet stays = Checks.told("street row;limit 9;takes:1=2;house 0 spends 0 owes 10 empty;house 0 spends 9;house 0 spends 0;");
        C.due("a gone one isn't ruined, 9 are not above 9", stays.quarters(1), 0);
        C.due("18 are", stays.quarters(1), 1);
        C.due("gone", stays.count(2), 2);
        DebtStreet twice = Checks.told("street ring;takes:1=2;limit 9;house 0 spends 10;house 0 spends 0;");
        C.due("ruined", twice.quarters(1), 1);
        C.due("not once more", twice.quarters(99), 0);
        C.due("gone", twice.count(2), 1);
    }

    /** "quarter: QUARTER modulo 1,000": 999, then 0. */
    private static void quarterModuloAThousand() {
        DebtStreet x = Checks.told("street ring;quarter 998;grows:quarter;pays:quarter-990;takes:quarter=0;limit 999;"
                + "house 0 spends 0 cash 999;house 0 spends 0;");
        int[] grows = {998, 999, 0, 1};
        for (int i = 0; i < 4; i++) {
            C.due("QUARTER", x.count(7), 998 + i);
            C.due("in grows", x.grows(0, 1), grows[i]);
            C.due("in takes", x.takes(0, 1), i == 2);
            x.quarters(1);
        }
        for (int i = 0; i < 10; i++) {
            x.quarters(99);
        }
        C.due("QUARTER", x.count(7), 1992);
        C.due("in grows", x.grows(0, 1), 992);
        x.quarters(8);
        C.due("QUARTER", x.count(7), 2000);
        C.due("in grows", x.grows(0, 1), 0);
        C.due("in takes", x.takes(0, 1), true);
        DebtStreet pays = Checks.told("street ring;quarter 998;pays:quarter-990;limit 999;house 0 spends 0 cash 999 owes 999;");
        int[] due = {8, 9, 0, 0};
        for (int i = 0; i < 4; i++) {
            C.due("in pays", pays.pays(0), due[i]);
            C.due("paid", pays.paid(1), due[i]);
            pays.quarters(1);
        }
    }

    /** "one of = < >": one less, the same, one more. */
    private static void comparisons() {
        for (int d = 4; d <= 6; d++) {
            C.due(d + " = 5", taken("debt=5", d), d == 5);
            C.due(d + " < 5", taken("debt<5", d), d < 5);
            C.due(d + " > 5", taken("debt>5", d), d > 5);
            C.due("not " + d + " = 5", taken("not debt=5", d), d != 5);
            C.due("not " + d + " < 5", taken("not debt<5", d), d >= 5);
            C.due("not " + d + " > 5", taken("not debt>5", d), d <= 5);
            C.due("both", taken("debt>4 and debt<6", d), d == 5);
            C.due("one", taken("debt<5 or debt>5", d), d != 5);
            C.due("and ahead of or", taken("debt=5 or debt=4 and debt=6", d), d == 5);
        }
        C.due("below 0", taken("0-1<0", 0), true);
        C.due("below 0", taken("0-2<0-1", 0), true);
    }

    private static boolean taken(String law, int d) {
        return Checks.told("street ring;house 0 spends 0;takes:" + law + ";").takes(0, d);
    }

    /** "each + - * kept from -1,000,000 to 1,000,000". */
    private static void keptToAMillion() {
        String million = "999*999+999+999";
        int[] more = {0, 1, 2, 3, 999};
        int[] kept = {0, 1, 1, 1, 1};
        for (int i = 0; i < more.length; i++) {
            // 999,999 and so much: above 999,999 by
            C.due("999,999 + " + more[i], grown(million + "+" + more[i] + "-999*999-999-999"), 0 + kept[i]);
            // -999,999 less so much: above -1,000,010 by
            C.due("-999,999 - " + more[i], grown("0-999*999-999-999-" + more[i] + "+999*999+999+999+10"), 10 - kept[i]);
        }
        // 999 * 1,001 = 999,999; 1,000 * 1,000; 101 * 9,901 = 1,000,001; 10^12
        String[] products = {"999*(999+2)", "(999+1)*(999+1)", "101*(999*9+910)", "(999*999+999+999+1)*(999*999+999+999+1)"};
        int[] above = {0, 1, 1, 1};
        for (int i = 0; i < products.length; i++) {
            C.due(products[i], grown(products[i] + "-999*999-999-999"), above[i]);
            C.due("0 - " + products[i], grown("0-" + products[i] + "+999*999+999+999+10"), 10 - above[i]);
            C.due("-1 * " + products[i], grown("(0-1)*" + products[i] + "+999*999+999+999+10"), 10 - above[i]);
        }
        C.due("-1,000,000 * 1,000,000", grown("(0-" + million.replace('+', '-') + "-1)*(" + million + "+1)+" + million + "+10"), 9);
        C.due("-1,000,000 * -1,000,000", grown("(0-" + million.replace('+', '-') + "-9)*(0-" + million.replace('+', '-')
                + "-9)-999*999-999-990"), 10);
        C.due("-101 * -9,901", grown("(0-101)*(0-999*9-910)-999*999-999-990"), 10);
        // Each one, not the last alone: kept on the way.
        C.due("on the way up", grown("999*999+999*999-999*999-999-999"), 1);
        C.due("on the way down", grown("0-999*999-999*999+999*999+999+999+3"), 2);
        // The same in pays and in takes.
        C.due("in pays", Checks.told("street ring;house 0 spends 0 cash 9 owes 9;pays:" + million + "+5-999*999-999-999;").pays(0), 1);
        C.due("in takes", taken(million + "+5=" + million + "+1", 0), true);
        C.due("in takes", taken(million + "+5=" + million, 0), false);
    }

    private static int grown(String law) {
        return Checks.told("street ring;house 0 spends 0;grows:" + law + ";").grows(0, 1);
    }

    private static void pass(DebtStreet x, int quarters) {
        for (int left = quarters; left > 0; left -= 99) {
            x.quarters(Math.min(left, 99));
        }
    }

    /** "DEBT ...: 999,999 each at most": as it grows. */
    private static void debtAtMost() {
        for (int owes = 997; owes <= 999; owes++) {
            DebtStreet x = Checks.told("street ring;grows:999;house 0 spends 0 empty owes " + owes + ";");
            pass(x, 999);
            C.due("owed " + owes, x.house(0, 0), owes + 999 * 999);
            C.due("in one", x.debtIn(0, 1), owes + 999 * 1000);
            C.due("in two", x.debtIn(0, 2), 999_999);
            pass(x, 1);
            C.due("then", x.house(0, 0), owes + 999_000);
            pass(x, 1);
            C.due("at most", x.house(0, 0), 999_999);
            C.due("in all", x.count(3), 999_999);
            pass(x, 1);
            C.due("still", x.house(0, 0), 999_999);
            C.due("to come", x.debtIn(0, 200), 999_999);
            C.due("goes", x.burden(0, 1), 999_999);
        }
    }

    /** "DEBT ...: 999,999 each at most": of what stays and what comes. */
    private static void debtThatCameAtMost() {
        int[] owes = {993, 994, 995, 999};
        int[] want = {999_998, 999_999, 999_999, 999_999};
        for (int i = 0; i < owes.length; i++) {
            DebtStreet x = Checks.told("street ring;grows:house*999;takes:house=1 and quarter=999;house 0 spends 0 empty owes "
                    + owes[i] + ";house 0 spends 0 empty owes 5;");
            pass(x, 999);
            C.due("ahead of it", x.house(1, 0), 5 + 999 * 999);
            C.due("goes", x.burden(1, 1), owes[i]);
            C.due("to come", x.debtIn(1, 1), want[i]);
            pass(x, 1);
            C.due("came", x.house(1, 0), want[i]);
            C.due("gone from there", x.house(0, 0), 0);
        }
    }

    /** "what came to the SEA ...: 999,999 each at most". */
    private static void seaAtMost() {
        DebtStreet x = Checks.told("street row;house 0 spends 99;");
        pass(x, 10_098);
        C.due("till now", x.count(5), 999_702);
        C.due("in two", x.seaIn(2), 999_900);
        C.due("in three: just as much", x.seaIn(3), 999_999);
        C.due("in four: no more", x.seaIn(4), 999_999);
        pass(x, 3);
        C.due("just as much", x.count(5), 999_999);
        pass(x, 1);
        C.due("no more", x.count(5), 999_999);
        C.due("no more", x.seaIn(200), 999_999);
        DebtStreet y = Checks.told("street row;house 0 spends 98;");
        pass(y, 10_204);
        C.due("till now", y.count(5), 999_992);
        C.due("in one: not all of 98", y.seaIn(1), 999_999);
    }

    /** "CASH: 999,999 each at most": by what is earned, and by a gift. */
    private static void cashAtMost() {
        DebtStreet x = Checks.told("street ring;house 99 spends 0;house 0 spends 0 cash 999;");
        pass(x, 10_098);
        C.due("till now", x.household(0, 2), 999_702);
        C.due("in two", x.cashIn(0, 2), 999_900);
        C.due("in three: just as much", x.cashIn(0, 3), 999_999);
        C.due("in four: no more", x.cashIn(0, 4), 999_999);
        pass(x, 2);
        C.due("gift", x.gift(1, 0, 98), 901);
        C.due("999,998", x.household(0, 2), 999_998);
        C.due("in one: no more", x.cashIn(0, 1), 999_999);
        C.due("gift", x.gift(1, 0, 1), 900);
        C.due("just as much", x.household(0, 2), 999_999);
        C.due("gift", x.gift(1, 0, 1), 899);
        C.due("no more", x.household(0, 2), 999_999);
        x.undo(2);
        C.due("gift", x.gift(1, 0, 899), 2);
        C.due("no more", x.household(0, 2), 999_999);
        pass(x, 1);
        C.due("no more", x.household(0, 2), 999_999);
        Checks.fill(x, 0, 1, 301, 310);
        C.due("told: back and forth", x.perform(0), 2);
        C.due("no more", x.household(0, 2), 999_999);
        C.due("in sum", x.count(4), 1_000_001);
    }
}
