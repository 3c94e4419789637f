import java.util.NoSuchElementException;

/** The bounds that the document names for all that is asked of quarters to come, and promises 19 to 41. */
public final class AskedBoundsTest {
    private static final Checks C = new Checks();
    private static final Class<NoSuchElementException> N = NoSuchElementException.class;
    private static final Class<IllegalArgumentException> A = IllegalArgumentException.class;
    private static final Class<IllegalStateException> S = IllegalStateException.class;
    private static final int[] NOT_NEAR = {0, 21, -1, 22, 200, Integer.MIN_VALUE, Integer.MAX_VALUE};
    private static final int[] NOT_FAR = {-1, 201, -2, 202, Integer.MIN_VALUE, Integer.MAX_VALUE};
    private static final int[] NO_HOUSE = {-1, 3, 7, Integer.MIN_VALUE, Integer.MAX_VALUE};
    private static final String THREE = "street ring;limit 30;house 5 spends 1 owes 9;house 0 spends 3 cash 4;house 1 spends 1 empty;";

    public static void main(String[] args) {
        farOnes();
        nearOnes();
        nearOnesOfAHouse();
        noHouses();
        inTheLastQuarter();
        inTheLastQuarterSwapped();
        inTheLastQuarterOthers();
        ruinedIn();
        clearIn();
        seaIn();
        lostAreNotGoneNow();
        heaviestIsTheFirst();
        ordersAsked();
        ordersMoveAllOfAHousehold();
        ordersAskedAgain();
        ordersAreAllOfThem();
        swapsThatAreBetter();
        twoWouldSwap();
        bestHouses();
        fewestHedges();
        leastSets();
        oneHedge();
        leastCash();
        leastLimits();
        worthOfOthers();
        pillars();
        C.end("AskedBoundsTest");
    }

    /** Promises 19, 20, 24: "n QUARTERS (0 to 200)". */
    private static void farOnes() {
        DebtStreet x = Checks.told(THREE);
        for (int n : NOT_FAR) {
            C.refused("debtIn(0, " + n + ")", A, () -> x.debtIn(0, n));
            C.refused("cashIn(0, " + n + ")", A, () -> x.cashIn(0, n));
            C.refused("seaIn(" + n + ")", A, () -> x.seaIn(n));
            for (int h : NO_HOUSE) {
                C.refused("told first: debtIn(" + h + ", " + n + ")", N, () -> x.debtIn(h, n));
                C.refused("told first: cashIn(" + h + ", " + n + ")", N, () -> x.cashIn(h, n));
            }
        }
        for (int h : NO_HOUSE) {
            C.refused("debtIn(" + h + ", 0)", N, () -> x.debtIn(h, 0));
            C.refused("cashIn(" + h + ", 0)", N, () -> x.cashIn(h, 0));
            C.refused("ruinIn(" + h + ")", N, () -> x.ruinIn(h));
        }
        C.due("debtIn(0, 0)", x.debtIn(0, 0), 9);
        C.due("cashIn(1, 0)", x.cashIn(1, 0), 4);
        C.due("seaIn(0)", x.seaIn(0), 0);
        DebtStreet y = Checks.told("street row;house 3 spends 1;house 0 spends 1;");
        C.due("cashIn(0, 200)", y.cashIn(0, 200), 400);
        C.due("cashIn(0, 199)", y.cashIn(0, 199), 398);
        C.due("seaIn(200)", y.seaIn(200), 200);
        C.due("seaIn(199)", y.seaIn(199), 199);
        for (int k = 199; k <= 201; k++) {
            DebtStreet z = Checks.told("street row;takes:quarter=" + (k - 1) + ";house 0 spends 0 owes 7 empty;house 0 spends 0;");
            C.due("in quarter " + k + ": debtIn(1, 199)", z.debtIn(1, 199), k == 199 ? 7 : 0);
            C.due("in quarter " + k + ": debtIn(1, 200)", z.debtIn(1, 200), k == 200 ? 7 : 0);
            C.due("in quarter " + k + ": debtIn(0, 200)", z.debtIn(0, 200), k == 201 ? 7 : 0);
        }
    }

    /** "n: 1 to 20" of those that ask for no house. */
    private static void nearOnes() {
        DebtStreet x = Checks.told(THREE);
        for (int n : NOT_NEAR) {
            C.refused("lost(" + n + ")", A, () -> x.lost(n));
            C.refused("heaviest(" + n + ")", A, () -> x.heaviest(n));
            C.refused("paid(" + n + ")", A, () -> x.paid(n));
            C.refused("order(" + n + ", 0)", A, () -> x.order(n, 0));
            C.refused("orders(" + n + ")", A, () -> x.orders(n));
            C.refused("bestSwap(" + n + ")", A, () -> x.bestSwap(n));
            C.refused("wouldSwap(" + n + ")", A, () -> x.wouldSwap(n));
            C.refused("bestHedge(" + n + ")", A, () -> x.bestHedge(n));
            C.refused("leastLimit(" + n + ")", A, () -> x.leastLimit(n));
            C.refused("pillar(" + n + ")", A, () -> x.pillar(n));
        }
        for (int n : new int[] {1, 20}) {
            C.due("lost(" + n + ")", x.lost(n), 0);
            C.due("heaviest(" + n + ")", x.heaviest(n) >= 0, true);
            C.due("paid(" + n + ")", x.paid(n) > 0, true);
            C.due("order(" + n + ", 0)", x.order(n, 0), 0);
            C.due("orders(" + n + ")", x.orders(n) > 0, true);
            C.due("bestSwap(" + n + ")", x.bestSwap(n), -1);
            C.due("bestHedge(" + n + ")", x.bestHedge(n), -1);
            C.due("leastLimit(" + n + ") <= 30", x.leastLimit(n) <= 30, x.lost(n) == 0);
            C.due("pillar(" + n + ") is one", x.pillar(n) < 2, true);
        }
    }

    /** The same of those that ask for one, and "it is GONE", in the order that is told. */
    private static void nearOnesOfAHouse() {
        DebtStreet x = Checks.told(THREE);
        for (int n : NOT_NEAR) {
            for (int h = 0; h < 3; h++) {
                int at = h;
                C.refused("burden(" + h + ", " + n + ")", A, () -> x.burden(at, n));
                C.refused("bestHouse(" + h + ", " + n + ")", A, () -> x.bestHouse(at, n));
                C.refused("hedges(" + h + ", " + n + ", 0)", A, () -> x.hedges(at, n, 0));
                C.refused("saves(" + h + ", " + n + ")", A, () -> x.saves(at, n));
                C.refused("worth(" + h + ", " + n + ")", A, () -> x.worth(at, n));
            }
        }
        for (int h : NO_HOUSE) {
            for (int n : new int[] {0, 1, 21}) {
                C.refused("burden(" + h + ", " + n + ")", N, () -> x.burden(h, n));
                C.refused("bestHouse(" + h + ", " + n + ")", N, () -> x.bestHouse(h, n));
                C.refused("hedges(" + h + ", " + n + ", 9)", N, () -> x.hedges(h, n, 9));
                C.refused("saves(" + h + ", " + n + ")", N, () -> x.saves(h, n));
                C.refused("worth(" + h + ", " + n + ")", N, () -> x.worth(h, n));
            }
        }
        for (int what : new int[] {-1, 2, Integer.MIN_VALUE, Integer.MAX_VALUE}) {
            C.refused("hedges(0, 1, " + what + ")", A, () -> x.hedges(0, 1, what));
            C.refused("a gone one: hedges(2, 1, " + what + ")", A, () -> x.hedges(2, 1, what));
        }
        for (int n : new int[] {1, 20}) {
            C.refused("hedges(2, " + n + ", 0)", S, () -> x.hedges(2, n, 0));
            C.refused("hedges(2, " + n + ", 1)", S, () -> x.hedges(2, n, 1));
            C.refused("saves(2, " + n + ")", S, () -> x.saves(2, n));
            C.refused("worth(2, " + n + ")", S, () -> x.worth(2, n));
            C.due("hedges(0, " + n + ", 0)", x.hedges(0, n, 0), 0);
            C.due("hedges(0, " + n + ", 1)", x.hedges(0, n, 1), 0);
            C.due("saves(0, " + n + ")", x.saves(0, n), 0);
            C.due("worth(0, " + n + ")", x.worth(0, n), 0);
            C.due("burden(2, " + n + ") of a gone one", x.burden(2, n) >= 0, true);
            C.due("bestHouse(2, " + n + ") of a gone one", x.bestHouse(2, n), 0);
        }
    }

    private static void noHouses() {
        DebtStreet x = new DebtStreet();
        for (int n : new int[] {1, 20}) {
            C.due("lost", x.lost(n), 0);
            C.due("heaviest", x.heaviest(n), -1);
            C.due("paid", x.paid(n), 0);
            C.due("order", x.order(n, 0), 0);
            C.due("orders", x.orders(n), 1);
            C.due("bestSwap", x.bestSwap(n), -1);
            C.due("wouldSwap", x.wouldSwap(n), -1);
            C.due("bestHedge", x.bestHedge(n), -1);
            C.due("leastLimit", x.leastLimit(n), 0);
            C.due("pillar", x.pillar(n), -1);
            for (int what = 10; what <= 16; what++) {
                C.due("order: no such one", x.order(n, what), -1);
            }
        }
        C.due("clear", x.clear(), 0);
        C.due("seaIn", x.seaIn(200), 0);
        C.refused("ruinIn", N, () -> x.ruinIn(0));
        C.refused("burden", N, () -> x.burden(0, 1));
        C.refused("bestHouse", N, () -> x.bestHouse(0, 1));
        C.refused("hedges", N, () -> x.hedges(0, 1, 0));
        C.refused("saves", N, () -> x.saves(0, 1));
        C.refused("worth", N, () -> x.worth(0, 1));
    }

    /** "in n QUARTERS": what comes in the n-th counts, what comes in the next one doesn't. */
    private static void inTheLastQuarter() {
        for (int k = 1; k <= 21; k++) {
            // What house 1 owes stays there; in the k-th quarter what house 0 owes comes there, too.
            DebtStreet x = Checks.told("street ring;limit 10;takes:house=1 and quarter=" + (k - 1) + ";house 0 spends 0 owes 6 empty;"
                    + "house 0 spends 0 owes 6;");
            C.due("ruinIn", x.ruinIn(1), k);
            for (int n = Math.max(k - 1, 1); n <= Math.min(k + 1, 20); n++) {
                boolean in = n >= k;
                String name = " in " + n + ", comes in " + k;
                C.due("lost" + name, x.lost(n), in ? 1 : 0);
                C.due("burden" + name, x.burden(1, n), in ? 6 : 0);
                C.due("heaviest" + name, x.heaviest(n), in ? 1 : 0);
                C.due("order" + name, x.order(n, 0), 0);
                C.due("order: 10" + name, x.order(n, 10), in ? 1 : 0);
                C.due("order: 11" + name, x.order(n, 11), in ? 0 : 1);
                C.due("order: 12" + name, x.order(n, 12), -1);
                C.due("orders" + name, x.orders(n), in ? 1 : 2);
                C.due("bestSwap" + name, x.bestSwap(n), in ? 1 : -1);
                C.due("hedges: 0" + name, x.hedges(1, n, 0), in ? 1 : 0);
                C.due("hedges: 1" + name, x.hedges(1, n, 1), in ? 2 : 0);
                C.due("bestHedge" + name, x.bestHedge(n), in ? 1 : -1);
                C.due("saves" + name, x.saves(1, n), in ? 2 : 0);
                C.due("leastLimit" + name, x.leastLimit(n), in ? 12 : 6);
                C.due("debtIn" + name, x.debtIn(1, n), in ? 12 : 6);
            }
        }
    }

    private static void inTheLastQuarterSwapped() {
        for (int k = 1; k <= 21; k++) {
            String takes = "limit 999;takes:quarter=" + (k - 1) + ";";
            DebtStreet two = Checks.told("street row;" + takes + "house 0 spends 0 owes 10;house 0 spends 0 owes 12;"
                    + "house 0 spends 0 cash 5;");
            DebtStreet ring = Checks.told("street ring;" + takes + "house 0 spends 0;house 0 spends 0;house 0 spends 0 owes 50;");
            DebtStreet pays = Checks.told("street ring;pays:quarter+2-" + k + ";limit 999;house 0 spends 0 cash 9 owes 9;");
            for (int n = Math.max(k - 1, 1); n <= Math.min(k, 20); n++) {
                String name = " in " + n + ", comes in " + k;
                C.due("wouldSwap" + name, two.wouldSwap(n), n == k ? 12 : -1);
                C.due("bestHouse" + name, ring.bestHouse(0, n), n == k ? 1 : 0);
                C.due("bestHouse of 2" + name, ring.bestHouse(2, n), n == k ? 1 : 0);
                C.due("paid" + name, pays.paid(n), n == k ? 1 : 0);
            }
        }
    }

    private static void inTheLastQuarterOthers() {
        for (int k = 2; k <= 21; k++) {
            // House 0 runs into 3 a quarter, and in the k-th all of it comes to house 1.
            DebtStreet harm = Checks.told("street row;limit " + (3 * k - 1) + ";takes:quarter=" + (k - 1)
                    + ";house 0 spends 3;house 0 spends 0;");
            // 50 come to house 1 in the quarter before; if nobody pays them they grow, and come to house 2 in the k-th.
            DebtStreet good = Checks.told("street row;limit 50;grows:house*10;takes:quarter>" + (k - 3 < 0 ? "0-1" : "" + (k - 3))
                    + ";house 0 spends 0 empty owes 50;house 99 spends 0 cash 50;house 0 spends 0;");
            for (int n = k - 1; n <= Math.min(k, 20); n++) {
                String name = " in " + n + ", comes in " + k;
                C.due("worth of the harmful" + name, harm.worth(0, n), n == k ? -1 : 0);
                C.due("no pillar" + name, harm.pillar(n), -1);
                C.due("worth of the good" + name, good.worth(1, n), n == k ? 1 : 0);
                C.due("pillar" + name, good.pillar(n), n == k ? 1 : -1);
            }
        }
    }

    /** Promise 21: "In how many QUARTERS (0 to 200) it is GONE first; NONE: not by then." */
    private static void ruinedIn() {
        DebtStreet gone = Checks.told("street ring;house 0 spends 0 empty;house 0 spends 99;");
        C.due("now", gone.ruinIn(0), 0);
        for (int limit = 0; limit <= 999; limit += limit < 5 || limit > 195 && limit < 203 ? 1 : limit < 190 ? 19 : 200) {
            DebtStreet x = Checks.told("street ring;house 0 spends 1;limit " + limit + ";");
            C.due("ruinIn, limit " + limit, x.ruinIn(0), limit < 200 ? limit + 1 : -1);
        }
        DebtStreet x = Checks.told("street ring;house 0 spends 1;limit 200;");
        x.quarters(1);
        C.due("one later", x.ruinIn(0), 200);
        x.quarters(99);
        x.quarters(99);
        x.quarters(1);
        C.due("ahead of it", x.ruinIn(0), 1);
        x.quarters(1);
        C.due("now", x.ruinIn(0), 0);
        x.quarters(1);
        C.due("gone for good", x.ruinIn(0), 0);
    }

    /** Promise 23: "In how many QUARTERS (0 to 200) no HOUSE has any DEBT first; NONE: not by then." */
    private static void clearIn() {
        for (int last = 198; last <= 201; last++) {
            // The debt of 1 goes from house 0 in the quarter so told, and one later it comes to the sea.
            DebtStreet x = Checks.told("street row;takes:quarter=" + (last - 2) + ";house 0 spends 0 empty owes 1;house 0 spends 0 empty;");
            C.due("clear by " + last, x.clear(), last <= 200 ? last : -1);
        }
        C.due("1 is debt", Checks.told("street row;house 0 spends 0 owes 1;").clear(), 1);
        C.due("0 is none", Checks.told("street row;house 0 spends 0 owes 0;").clear(), 0);
        C.due("1 at the last house alone", Checks.told("street ring;" + "house 0 spends 0;".repeat(6) + "house 0 spends 0 owes 1;").clear(), -1);
        C.due("1 at house 0 alone", Checks.told("street ring;house 0 spends 0 owes 1;" + "house 0 spends 0;".repeat(6)).clear(), -1);
        // First: clear now, though debts come again.
        C.due("first", Checks.told("street ring;house 0 spends 1;").clear(), 0);
        C.due("first", Checks.told("street row;house 0 spends 0 owes 3;house 0 spends 1 cash 9;").clear(), 2);
        C.due("paid off at last", Checks.told("street ring;house 1 spends 0 owes 200;limit 999;").clear(), 200);
        C.due("not by then", Checks.told("street ring;house 1 spends 0 owes 201;limit 999;").clear(), -1);
    }

    /** Promise 24: "with what has till now". */
    private static void seaIn() {
        DebtStreet x = Checks.told("street row;house 0 spends 1 owes 4;");
        C.due("0", x.seaIn(0), 0);
        C.due("1", x.seaIn(1), 5);
        C.due("200", x.seaIn(200), 204);
        x.quarters(1);
        C.due("0", x.seaIn(0), 5);
        C.due("1", x.seaIn(1), 6);
        x.undo(1);
        C.due("undone", x.seaIn(0), 0);
    }

    /** "LOST ...: how many households that aren't GONE now are RUINED in these." */
    private static void lostAreNotGoneNow() {
        for (int gone = 0; gone <= 7; gone++) {
            DebtStreet x = Checks.told("street ring;limit 0;takes:1=2;" + "house 0 spends 1 owes 5 empty;".repeat(gone)
                    + "house 0 spends 1 owes 5;".repeat(7 - gone));
            C.due("lost, gone " + gone, x.lost(1), 7 - gone);
            C.due("lost, gone " + gone, x.lost(20), 7 - gone);
            C.due("order, gone " + gone, x.order(1, 0), 7 - gone);
            C.due("orders, gone " + gone, x.orders(1), 5040);
            x.quarters(1);
            C.due("now none", x.lost(20), 0);
        }
    }

    /** Promise 26: "The HOUSE to which most GOES in n QUARTERS, the first". */
    private static void heaviestIsTheFirst() {
        for (int a = 0; a <= 3; a++) {
            for (int b = 0; b <= 3; b++) {
                for (int c = 0; c <= 3; c++) {
                    DebtStreet x = Checks.told("street ring;limit 999;house 0 spends 0 owes " + a + ";house 0 spends 0 owes " + b
                            + ";house 0 spends 0 owes " + c + ";");
                    C.due("heaviest(1) of " + a + b + c, x.heaviest(1), c >= a && c >= b ? 0 : a >= b ? 1 : 2);
                    C.due("heaviest(3) of " + a + b + c, x.heaviest(3), 0);
                }
            }
        }
        C.due("the last of seven", Checks.told("street row;" + "house 0 spends 0;".repeat(5)
                + "house 0 spends 0 owes 1;house 0 spends 0;").heaviest(1), 6);
    }

    /** Promise 28: "what 0 ..., 10 + k ... (NONE: no such one)"; "another what (10 to 16)". */
    private static void ordersAsked() {
        for (int houses = 1; houses <= 7; houses++) {
            DebtStreet x = Checks.told("street row;" + "house 0 spends 0;".repeat(houses));
            for (int what = 10; what <= 16; what++) {
                C.due("order(1, " + what + ") of " + houses, x.order(1, what), what - 10 < houses ? what - 10 : -1);
            }
            C.due("order(1, 0)", x.order(1, 0), 0);
            for (int what : new int[] {-1, 1, 2, 9, 17, 18, Integer.MIN_VALUE, Integer.MAX_VALUE}) {
                C.refused("order(1, " + what + ")", A, () -> x.order(1, what));
                C.refused("order(0, " + what + ")", A, () -> x.order(0, what));
            }
        }
        // The last of all orders: each house stands just what its own household can pay there.
        StringBuilder text = new StringBuilder("street row;limit 0;pays:cash;takes:1=2;");
        for (int h = 0; h < 7; h++) {
            text.append("house 0 spends 0 cash ").append(10 * h + 1).append(" owes ").append(10 * (6 - h) + 1).append(';');
        }
        DebtStreet last = Checks.told(text.toString());
        C.due("none lost, house 6's goes to the sea", last.order(1, 0), 0);
        for (int k = 0; k < 7; k++) {
            C.due("the last order: house " + k, last.order(1, 10 + k), 6 - k);
        }
        C.due("the only one", last.orders(1), 1);
    }

    /** "which household comes to which HOUSE, all as it is else": what it earns, spends, has, whether it is gone. */
    private static void ordersMoveAllOfAHousehold() {
        String[] able = {"house 9 spends 0", "house 0 spends 0", "house 0 spends 0 cash 9", "house 0 spends 0 empty"};
        String[] poor = {"house 0 spends 0", "house 0 spends 9", "house 0 spends 0", "house 0 spends 0"};
        int[] owes = {15, 5, 15, 15};
        for (int i = 0; i < able.length; i++) {
            for (int houses = 2; houses <= 7; houses++) {
                // 10 can be stood. Where most is owed the last household alone can live.
                DebtStreet x = Checks.told("street ring;takes:1=2;limit 10;" + poor[i] + " owes " + owes[i] + ";"
                        + (poor[i] + ";").repeat(houses - 2) + able[i] + ";");
                C.due("lost, " + able[i] + " of " + houses, x.lost(1), 1);
                C.due("order(1, 0), " + able[i] + " of " + houses, x.order(1, 0), 0);
                for (int k = 0; k < houses; k++) {
                    C.due("order(1, " + (10 + k) + "), " + able[i] + " of " + houses, x.order(1, 10 + k), k == 0 ? houses - 1 : k - 1);
                }
                int like = 1;
                for (int k = 2; k < houses; k++) {
                    like *= k;
                }
                C.due("orders(1), " + able[i] + " of " + houses, x.orders(1), like);
            }
        }
    }

    private static void orderIs(String name, DebtStreet x, int first, int second, int like) {
        C.due(name + ": house 0", x.order(1, 10), first);
        C.due(name + ": house 1", x.order(1, 11), second);
        C.due(name + ": as good", x.orders(1), like);
        C.due(name + ": house 0, once more", x.order(1, 10), first);
    }

    /** The same question, when one thing alone is another one: the text's limit, its law, ring or row; QUARTER. */
    private static void ordersAskedAgain() {
        String two = "house 0 spends 0 owes 9 empty;house 0 spends 0;";
        DebtStreet x = Checks.told("street row;limit 8;" + two);
        orderIs("limit 8", x, 1, 0, 1);
        Checks.tell(x, "street row;limit 9;" + two);
        orderIs("limit 9", x, 0, 1, 2);
        Checks.tell(x, "street row;limit 8;takes:1=2;" + two);
        orderIs("it stays", x, 0, 1, 1);
        Checks.tell(x, "street row;limit 8;takes:1=1;" + two);
        orderIs("it goes", x, 1, 0, 1);
        Checks.tell(x, "street ring;limit 8;takes:1=2;" + two);
        orderIs("it stays", x, 0, 1, 1);
        Checks.tell(x, "street ring;limit 20;grows:5;takes:1=2;" + two);
        orderIs("it grows a little", x, 0, 1, 2);
        Checks.tell(x, "street ring;limit 20;grows:15;takes:1=2;" + two);
        orderIs("it grows", x, 0, 1, 1);
        String last = "house 0 spends 0 empty;house 0 spends 0 owes 9;";
        Checks.tell(x, "street row;limit 8;" + last);
        orderIs("to the sea", x, 0, 1, 2);
        Checks.tell(x, "street ring;limit 8;" + last);
        orderIs("to house 0", x, 0, 1, 1);
        Checks.tell(x, "street row;limit 8;takes:quarter>0;" + two);
        orderIs("QUARTER 0", x, 0, 1, 1);
        C.due("nothing else is another one", x.quarters(1), 0);
        orderIs("QUARTER 1", x, 1, 0, 1);
        x.undo(1);
        orderIs("QUARTER 0 again", x, 0, 1, 1);
        C.due("in two", x.order(2, 0), 1);
        C.due("in one", x.order(1, 0), 0);
        C.due("orders in two", x.orders(2), 2);
        C.due("orders in one", x.orders(1), 1);
    }

    /** Promise 29: of none, of one, of all. */
    private static void ordersAreAllOfThem() {
        int all = 1;
        for (int houses = 1; houses <= 7; houses++) {
            all *= houses;
            String home = "house 0 spends 0 owes 9;";
            C.due("nobody lost, " + houses, Checks.told("street ring;" + home.repeat(houses)).orders(20), all);
            C.due("all lost, " + houses, Checks.told("street ring;limit 8;" + home.repeat(houses)).orders(20), all);
            C.due("all lost, " + houses, Checks.told("street ring;limit 8;" + home.repeat(houses)).order(20, 0), houses);
        }
    }

    /** Promise 30: "if fewer than now: 10 times the lesser HOUSE, and the other, the first; NONE: by none". */
    private static void swapsThatAreBetter() {
        for (int hit = 1; hit <= 6; hit++) {
            for (int gone = 0; gone <= 6; gone++) {
                // 50 come to one house; a gone one can stand that.
                StringBuilder text = new StringBuilder("street row;limit 10;takes:house=" + hit + ";");
                for (int h = 0; h < 7; h++) {
                    text.append("house 0 spends 0 owes ").append(h == hit - 1 ? "50" : "0").append(h == gone ? " empty;" : ";");
                }
                DebtStreet x = Checks.told(text.toString());
                int want = gone == hit ? -1 : 10 * Math.min(gone, hit) + Math.max(gone, hit);
                C.due("bestSwap, hit " + hit + ", gone " + gone, x.bestSwap(1), want);
                C.due("lost", x.lost(1), gone == hit ? 0 : 1);
            }
        }
        // As many as now, another one: none is better.
        DebtStreet even = Checks.told("street row;limit 10;takes:house=1;house 0 spends 0 owes 50;house 0 spends 0;house 0 spends 0;");
        C.due("as many", even.bestSwap(1), -1);
        // The first of like ones.
        DebtStreet like = Checks.told("street row;limit 10;takes:house=3;house 0 spends 0;house 0 spends 0 empty;house 0 spends 0 owes 50 empty;"
                + "house 0 spends 0;house 0 spends 0 empty;");
        C.due("1 and 3, ahead of 2 and 3, 3 and 4", like.bestSwap(1), 13);
        // Fewest, not the first that is fewer: two are lost now, 0 and 2 are one, 1 and 2 none.
        DebtStreet fewest = Checks.told("street row;limit 10;pays:cash;takes:house=4;house 0 spends 0 cash 20 owes 8;house 0 spends 0 cash 40 owes 6;"
                + "house 0 spends 0 owes 40;house 0 spends 0 owes 9 cash 30;house 0 spends 0;");
        C.due("lost", fewest.lost(1), 1);
        C.due("by cash 40 alone", fewest.bestSwap(1), 12);
    }

    /** "if by it BURDEN of each, where it is then, is less than now; neither GONE." */
    private static void twoWouldSwap() {
        for (int a = 9; a <= 11; a++) {
            for (int b = 9; b <= 17; b++) {
                for (int gone = 0; gone < 3; gone++) {
                    // a comes to house 1, b to house 2; swapped a and b - 5.
                    DebtStreet x = Checks.told("street row;limit 999;house 0 spends 0 owes " + a + ";house 0 spends 0 owes " + b
                            + (gone == 1 ? " empty" : "") + ";house 0 spends 0 cash 5" + (gone == 2 ? " empty;" : ";"));
                    boolean less = b - 5 < a && a < b;
                    C.due("wouldSwap of " + a + ", " + b + ", gone " + gone, x.wouldSwap(1), less && gone == 0 ? 12 : -1);
                }
            }
        }
        DebtStreet last = Checks.told("street row;limit 999;" + "house 0 spends 0;".repeat(4)
                + "house 0 spends 0 owes 10;house 0 spends 0 owes 12;house 0 spends 0 cash 5;");
        C.due("the last two", last.wouldSwap(1), 56);
        DebtStreet twice = Checks.told("street row;limit 999;takes:house=1 or house=2 or house=5 or house=6;house 0 spends 0 owes 10;"
                + "house 0 spends 0 owes 12;house 0 spends 0 cash 5;house 0 spends 0;house 0 spends 0 owes 10;house 0 spends 0 owes 12;"
                + "house 0 spends 0 cash 5;");
        C.due("the first two", twice.wouldSwap(1), 12);
        DebtStreet ring = Checks.told("street ring;limit 999;house 0 spends 0 owes 12;house 0 spends 0 cash 5;house 0 spends 0 owes 10;");
        C.due("houses 0 and 1", ring.wouldSwap(1), 1);
        DebtStreet ends = Checks.told("street ring;limit 999;house 0 spends 0 cash 5;house 0 spends 0 owes 10;house 0 spends 0 owes 12;");
        C.due("the last and house 0, the lesser told first", ends.wouldSwap(1), 2);
    }

    /** Promise 32: "least, SWAPPED there (or staying), the first". */
    private static void bestHouses() {
        for (int h = 0; h < 7; h++) {
            StringBuilder text = new StringBuilder("street ring;limit 999;");
            for (int k = 0; k < 7; k++) {
                text.append("house 0 spends 0 owes ").append(k == (h + 6) % 7 ? 1 : 2).append(';');
            }
            DebtStreet x = Checks.told(text.toString());
            for (int k = 0; k < 7; k++) {
                C.due("the one to which less goes: " + h + ", from " + k, x.bestHouse(k, 1), h);
            }
            DebtStreet like = Checks.told("street ring;limit 999;" + "house 0 spends 0 owes 2;".repeat(7));
            C.due("all like: the first", like.bestHouse(h, 20), 0);
        }
        C.due("one house", Checks.told("street ring;limit 999;house 0 spends 0 owes 2;").bestHouse(0, 20), 0);
    }

    /** Promise 33: none are needed, some, none help; "the fewest ..., of like ones the least set as bits". */
    private static void fewestHedges() {
        for (int limit = 9; limit <= 11; limit++) {
            DebtStreet x = Checks.told("street row;limit " + limit + ";house 0 spends 0 owes 10;house 0 spends 0;");
            C.due("how many, limit " + limit, x.hedges(1, 1, 0), limit < 10 ? 1 : 0);
            C.due("which, limit " + limit, x.hedges(1, 1, 1), limit < 10 ? 2 : 0);
            DebtStreet own = Checks.told("street ring;takes:1=2;limit " + limit + ";house 0 spends 10;house 0 spends 0;");
            C.due("by none, limit " + limit, own.hedges(0, 1, 0), limit < 10 ? -1 : 0);
            C.due("by none, limit " + limit, own.hedges(0, 1, 1), limit < 10 ? -1 : 0);
        }
        for (int h = 1; h < 7; h++) {
            DebtStreet x = Checks.told("street row;limit 9;house 0 spends 0 owes 10;" + "house 0 spends 0;".repeat(6));
            C.due("in as many: " + h, x.hedges(h, h, 1), 2);
            C.due("in one fewer: " + h, h == 1 ? 0 : x.hedges(h, h - 1, 1), 0);
            DebtStreet last = Checks.told("street row;limit 9;" + "house 0 spends 0;".repeat(h - 1)
                    + "house 0 spends 0 owes 10 empty;" + "house 0 spends 0;".repeat(7 - h));
            C.due("at house " + h, last.hedges(h, 20, 1), 1 << h);
            C.due("one", last.hedges(h, 20, 0), 1);
        }
        DebtStreet planted = Checks.told("street row;limit 9;house 0 spends 0 owes 10;house 0 spends 0 hedge 3;");
        C.due("as long as it lasts", planted.hedges(1, 3, 1), 0);
        C.due("longer: in place of it", planted.hedges(1, 4, 1), 2);
        C.due("it stays", planted.house(1, 1), 3);
    }

    /** All sets are tried: against each set planted on a street of its own. */
    private static void leastSets() {
        String[] streets = {"street ring;limit 20;takes:debt<own+11;house 0 spends 3 owes 3;house 0 spends 2 owes 18 empty;"
                + "house 3 spends 4 owes 4;house 1 spends 2 owes 18;house 9 spends 2 owes 7;house 0 spends 1 owes 15;house 2 spends 3 owes 20;",
            "street ring;limit 40;takes:own>9 or debt>30;grows:house;house 4 spends 9 owes 30;house 0 spends 5 owes 12;house 1 spends 1;"
                + "house 7 spends 2 owes 35;house 0 spends 0 owes 25 empty;house 2 spends 2 owes 28;house 3 spends 0 cash 9;",
            "street row;limit 25;house 0 spends 1 owes 20;house 0 spends 2 owes 10;house 0 spends 3 owes 20;house 0 spends 4;"
                + "house 9 spends 1 owes 24;house 0 spends 2 owes 20;house 0 spends 0 owes 10;"};
        for (String text : streets) {
            for (int n : new int[] {1, 2, 3, 5, 20}) {
                int[] best = new int[7];
                java.util.Arrays.fill(best, -1);
                for (int set = 0; set < 128; set++) {
                    DebtStreet y = Checks.told(text);
                    for (int k = 0; k < 7; k++) {
                        if ((set >> k & 1) == 1) {
                            y.plant(k, n);
                        }
                    }
                    for (int h = 0; h < 7; h++) {
                        int ruin = y.ruinIn(h);
                        if ((ruin < 0 || ruin > n) && (best[h] < 0 || Integer.bitCount(set) < Integer.bitCount(best[h]))) {
                            best[h] = set;
                        }
                    }
                }
                DebtStreet x = Checks.told(text);
                for (int h = 0; h < 7; h++) {
                    if (x.household(h, 3) == 0) {
                        C.due("hedges(" + h + ", " + n + ", 1) of " + text, x.hedges(h, n, 1), best[h]);
                        C.due("hedges(" + h + ", " + n + ", 0)", x.hedges(h, n, 0), best[h] < 0 ? -1 : Integer.bitCount(best[h]));
                    }
                }
            }
        }
    }

    /** Promise 34: "makes fewest LOST in these, if fewer than now, the first; NONE: by none". */
    private static void oneHedge() {
        for (int h = 1; h < 7; h++) {
            DebtStreet x = Checks.told("street row;limit 9;takes:house=" + h + ";" + "house 0 spends 0;".repeat(h - 1)
                    + "house 0 spends 0 owes 10 empty;" + "house 0 spends 0;".repeat(7 - h));
            C.due("at house " + h, x.bestHedge(1), h);
            x.plant(h, 1);
            C.due("nobody is lost", x.bestHedge(1), -1);
            C.due("longer", x.bestHedge(2), h);
        }
        DebtStreet ring = Checks.told("street ring;limit 9;takes:house=0;house 0 spends 0;house 0 spends 0 owes 10 empty;");
        C.due("at house 0", ring.bestHedge(20), 0);
        DebtStreet even = Checks.told("street row;limit 9;house 0 spends 0 owes 10;house 0 spends 0;");
        C.due("house 0 is lost then: as many", even.bestHedge(1), -1);
        DebtStreet like = Checks.told("street row;limit 9;house 0 spends 0 owes 10 empty;house 0 spends 0 empty;house 0 spends 0;house 0 spends 0 hedge 20;");
        C.due("at 1 or at 2: the first", like.bestHedge(20), 1);
        DebtStreet fewest = Checks.told("street row;limit 9;house 0 spends 0 owes 10 empty;house 0 spends 0;house 0 spends 0;house 0 spends 0;");
        C.due("fewest", fewest.bestHedge(2), 1);
        DebtStreet later = Checks.told("street row;limit 9;house 0 spends 0 owes 9;house 0 spends 1 owes 9;house 0 spends 0 owes 9 empty;"
                + "house 0 spends 1;house 0 spends 0;");
        // 10 come to house 3, and 10 to house 4, in the second quarter.
        C.due("lost", later.lost(2), 2);
        C.due("not the first house", later.bestHedge(2), 3);
    }

    /** Promise 35: "The least CASH (0 to 999) ...; NONE: by none". */
    private static void leastCash() {
        for (int limit = 8; limit <= 11; limit++) {
            for (int cash = 0; cash <= 3; cash++) {
                DebtStreet x = Checks.told("street ring;takes:1=2;limit " + limit + ";house 0 spends 5 owes 5 cash " + cash + ";house 0 spends 0;");
                C.due("saves of cash " + cash + ", limit " + limit, x.saves(0, 1), Math.max(10 - limit - cash, 0));
                C.due("two quarters", x.saves(0, 2), Math.max(15 - limit - cash, 0));
            }
        }
        for (int owes = 940; owes <= 960; owes++) {
            DebtStreet x = Checks.told("street ring;takes:1=2;limit 0;house 0 spends 50 owes " + owes + ";house 0 spends 0;");
            C.due("saves of " + owes, x.saves(0, 1), owes + 50 <= 999 ? owes + 50 : -1);
        }
        DebtStreet free = Checks.told("street row;house 0 spends 99;");
        C.due("none is needed", free.saves(0, 20), 0);
        // The least by which it isn't, though by more it is: 3 alone is paid off just so.
        DebtStreet odd = Checks.told("street ring;takes:1=2;limit 20;pays:(cash-3)*(3-cash)+1;house 0 spends 0 owes 21;house 0 spends 0;");
        C.due("3", odd.saves(0, 1), 3);
        DebtStreet most = Checks.told("street ring;takes:1=2;limit 20;pays:(cash-999)*(999-cash)+1;house 0 spends 0 owes 21;house 0 spends 0;");
        C.due("999 alone", most.saves(0, 1), 999);
        DebtStreet beyond = Checks.told("street ring;takes:1=2;limit 20;pays:(cash-999-1)*(999+1-cash)+1;house 0 spends 0 owes 21;house 0 spends 0;");
        C.due("1,000 alone: by none", beyond.saves(0, 1), -1);
    }

    /** Promise 36: "The least LIMIT (0 to 999) by which nobody is LOST ...; NONE: by none". */
    private static void leastLimits() {
        for (int limit : new int[] {0, 7, 999}) {
            for (int debt = 990; debt <= 1010; debt++) {
                DebtStreet x = Checks.told("street ring;takes:1=2;limit " + limit + ";house 0 spends 50 owes " + (debt - 50) + ";house 0 spends 0;");
                C.due("leastLimit of " + debt, x.leastLimit(1), debt <= 999 ? debt : -1);
            }
            for (int debt = 0; debt <= 2; debt++) {
                DebtStreet x = Checks.told("street ring;limit " + limit + ";house 0 spends 0 owes " + debt + ";");
                C.due("leastLimit of " + debt, x.leastLimit(20), debt);
                C.due("the limit stays", x.count(6), limit);
            }
        }
        C.due("a gone one's debt", Checks.told("street ring;takes:1=2;house 0 spends 0 owes 999 empty;house 0 spends 0 owes 1;").leastLimit(20), 1);
        C.due("it comes to another one", Checks.told("street ring;house 0 spends 0 owes 999 empty;house 0 spends 0;").leastLimit(20), 999);
        C.due("all gone", Checks.told("street ring;house 0 spends 0 owes 999 empty;").leastLimit(20), 0);
    }

    /** Promise 37: "By how many fewer of the others are LOST ... (below 0: more)". */
    private static void worthOfOthers() {
        for (int many = 0; many <= 5; many++) {
            String rest = "house 0 spends 0;".repeat(many) + "house 0 spends 0 empty;".repeat(5 - many);
            // What house 1 pays comes by all the others, if it is gone.
            DebtStreet good = Checks.told("street row;limit 20;takes:house>1;house 0 spends 0 empty;house 9 spends 0 cash 90 owes 30;" + rest);
            C.due("none is lost", good.lost(5), 0);
            C.due("worth of " + many, good.worth(1, 5), Math.min(many, 5));
            C.due("pillar of " + many, good.pillar(5), many == 0 ? -1 : 1);
            DebtStreet harm = Checks.told("street row;limit 20;takes:house>1;house 0 spends 0 empty;house 0 spends 21;" + rest);
            C.due("all others are lost", harm.lost(5), many);
            C.due("worth of harm to " + many, harm.worth(1, 5), -many);
            C.due("no pillar", harm.pillar(5), -1);
        }
        DebtStreet self = Checks.told("street ring;takes:1=2;limit 0;house 0 spends 1;house 0 spends 1;");
        C.due("both are lost", self.lost(1), 2);
        C.due("its own loss counts nothing", self.worth(0, 1), 0);
        C.due("its own loss counts nothing", self.worth(1, 1), 0);
    }

    /** Promise 38: "The last household, by HOUSES, ...; NONE: none". */
    private static void pillars() {
        for (int h = 0; h < 6; h++) {
            // Who lives at house h pays off its own 30; else they go on to h + 1. So does who lives at house 0.
            StringBuilder text = new StringBuilder("street row;limit 20;");
            for (int k = 0; k < 7; k++) {
                text.append(k == h || k == 0 ? "house 9 spends 0 cash 90 owes 30;" : "house 0 spends 0;");
            }
            DebtStreet x = Checks.told(text.toString());
            C.due("none is lost", x.lost(1), 0);
            C.due("pillar " + h, x.pillar(1), h);
            C.due("house 0 is one, too", x.worth(0, 1), 1);
        }
        DebtStreet gone = Checks.told("street row;limit 20;house 9 spends 0 cash 90 owes 30 empty;house 0 spends 0;");
        C.due("who is gone is none", gone.pillar(1), -1);
        C.due("all gone", Checks.told("street row;house 0 spends 0 empty;").pillar(1), -1);
        C.due("the last house, to house 0", Checks.told("street ring;limit 20;house 0 spends 0;house 0 spends 0 empty;house 9 spends 0 cash 90 owes 30;")
                .pillar(1), 2);
    }
}
