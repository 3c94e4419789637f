import java.util.NoSuchElementException;

/** Promises 33 to 38: hedges, bestHedge, saves, leastLimit, worth, pillar. */
public final class HedgesTest {
    private static final Checks C = new Checks();
    private static final Class<NoSuchElementException> N = NoSuchElementException.class;
    private static final Class<IllegalArgumentException> A = IllegalArgumentException.class;
    private static final Class<IllegalStateException> S = IllegalStateException.class;
    // What is at house 0 comes by house 1 to house 2, and ruins both.
    private static final String DOWN = "street row;limit 20;house 0 spends 0 owes 50 empty;house 0 spends 0;"
            + "house 0 spends 0;";

    public static void main(String[] args) {
        bounds();
        hedges();
        bestHedge();
        saves();
        leastLimit();
        worth();
        pillar();
        C.end("HedgesTest");
    }

    private static void bounds() {
        DebtStreet x = Checks.told(DOWN);
        for (int n : new int[] {0, 21, -1, Integer.MIN_VALUE}) {
            C.refused("hedges(0, " + n + ", 0)", A, () -> x.hedges(0, n, 0));
            C.refused("bestHedge(" + n + ")", A, () -> x.bestHedge(n));
            C.refused("saves(0, " + n + ")", A, () -> x.saves(0, n));
            C.refused("leastLimit(" + n + ")", A, () -> x.leastLimit(n));
            C.refused("worth(0, " + n + ")", A, () -> x.worth(0, n));
            C.refused("pillar(" + n + ")", A, () -> x.pillar(n));
        }
        C.refused("no such house", N, () -> x.hedges(3, 0, 9));
        C.refused("no such house", N, () -> x.saves(3, 0));
        C.refused("no such house", N, () -> x.worth(-1, 0));
        C.refused("another what", A, () -> x.hedges(0, 1, 2));
        C.refused("another what", A, () -> x.hedges(0, 1, -1));
        C.refused("gone", S, () -> x.hedges(0, 1, 1));
        C.refused("gone", S, () -> x.saves(0, 1));
        C.refused("gone", S, () -> x.worth(0, 1));
        DebtStreet none = new DebtStreet();
        C.due("no houses", none.bestHedge(1), -1);
        C.due("no houses", none.leastLimit(20), 0);
        C.due("no houses", none.pillar(20), -1);
    }

    private static void hedges(DebtStreet x, int h, int n, int many, int set) {
        C.due("hedges(" + h + ", " + n + ", 0)", x.hedges(h, n, 0), many);
        C.due("hedges(" + h + ", " + n + ", 1)", x.hedges(h, n, 1), set);
    }

    private static void hedges() {
        DebtStreet x = Checks.told(DOWN);
        hedges(x, 1, 1, 1, 2);
        hedges(x, 1, 20, 1, 2);
        hedges(x, 2, 1, 0, 0);
        // at house 1 or at house 2: of like ones the least set
        hedges(x, 2, 2, 1, 2);
        C.due("nothing is planted", x.house(1, 1), 0);
        C.due("no deed", x.count(9), 0);
        // Its own debt at its own house: by none.
        DebtStreet own = Checks.told("street ring;limit 20;house 0 spends 5 owes 18;house 0 spends 0 hedge 20;");
        hedges(own, 0, 1, -1, -1);
        hedges(own, 1, 20, 0, 0);
        // House 1: 15 come, 12 can't go on.
        DebtStreet held = Checks.told("street row;limit 20;house 0 spends 0 owes 15;house 0 spends 0 owes 12;"
                + "house 0 spends 0 owes 3 hedge 1;house 0 spends 0 hedge 20;");
        hedges(held, 1, 1, 1, 2);
        byPlanting();
        DebtStreet ring = Checks.told("street ring;limit 9;house 0 spends 0 owes 5;house 0 spends 0 owes 5;"
                + "house 0 spends 0 owes 5;house 0 spends 4;");
        // 4 more a quarter come round at last; behind a hedge at house 1 they are held at house 0
        hedges(ring, 3, 1, 0, 0);
        hedges(ring, 3, 20, 1, 2);
        DebtStreet planted = Checks.told("street row;limit 20;house 0 spends 0 owes 50 empty hedge 3;"
                + "house 0 spends 0 hedge 1;house 0 spends 0;");
        hedges(planted, 1, 1, 0, 0);
        hedges(planted, 1, 2, 1, 2);
    }

    /** Hedges are the same as planted and lived with; here two are needed. */
    private static void byPlanting() {
        DebtStreet x = Checks.told("street ring;limit 20;takes:debt<own+11;house 0 spends 3 owes 3;"
                + "house 0 spends 2 owes 18 empty;house 3 spends 4 owes 4;house 1 spends 2 owes 18;");
        hedges(x, 3, 3, 2, 10);
        DebtStreet y = Checks.told("street ring;limit 20;takes:not house=2 or own>12;house 2 spends 4 owes 13;"
                + "house 2 spends 3 owes 17;house 0 spends 1 owes 9;");
        hedges(y, 1, 7, 2, 3);
        for (int n = 1; n <= 20; n++) {
            for (int h : new int[] {0, 2, 3}) {
                DebtStreet z = Checks.told("street ring;limit 20;takes:debt<own+11;house 0 spends 3 owes 3;"
                        + "house 0 spends 2 owes 18 empty;house 3 spends 4 owes 4;house 1 spends 2 owes 18;");
                int best = planted(z, h, n);
                hedges(z, h, n, best < 0 ? -1 : Integer.bitCount(best), best);
            }
        }
    }

    private static int planted(DebtStreet x, int h, int n) {
        int best = -1;
        int houses = x.count(1);
        for (int set = 0; set < 1 << houses; set++) {
            for (int k = 0; k < houses; k++) {
                if ((set & 1 << k) != 0) {
                    x.plant(k, n);
                }
            }
            int ruin = x.ruinIn(h);
            boolean saved = ruin < 0 || ruin > n;
            if (saved && (best < 0 || Integer.bitCount(set) < Integer.bitCount(best))) {
                best = set;
            }
            if (set > 0) {
                x.undo(Integer.bitCount(set));
            }
        }
        return best;
    }

    private static void bestHedge() {
        DebtStreet x = Checks.told(DOWN);
        C.due("at house 1", x.bestHedge(2), 1);
        C.due("at house 1", x.bestHedge(20), 1);
        x.plant(1, 20);
        C.due("nobody is lost", x.bestHedge(20), -1);
        DebtStreet none = Checks.told("street ring;limit 1;house 0 spends 2;");
        C.due("lost anyway", none.bestHedge(1), -1);
        DebtStreet later = Checks.told("street row;limit 20;house 0 spends 0 owes 5;house 0 spends 0 owes 30 hedge 9;"
                + "house 0 spends 0;house 0 spends 0;house 0 spends 0;");
        C.due("house 1 is lost, or who is behind it", later.bestHedge(1), -1);
        C.due("the first by which fewest are lost", later.bestHedge(3), 2);
        C.due("nothing is planted", later.house(2, 1), 0);
    }

    private static void saves() {
        DebtStreet x = Checks.told("street ring;limit 20;house 0 spends 5 owes 18;house 0 spends 0 hedge 20;"
                + "house 0 spends 0;");
        // 18 and 5 a quarter must stay at 20 or below: 3 in one quarter, 5 more in each further one
        C.due("saves(0, 1)", x.saves(0, 1), 3);
        C.due("saves(0, 2)", x.saves(0, 2), 8);
        C.due("saves(0, 20)", x.saves(0, 20), 98);
        C.due("none is needed", x.saves(1, 20), 0);
        C.due("no deed", x.count(9), 0);
        C.due("no cash", x.household(0, 2), 0);
        C.due("what comes is paid when it has come", Checks.told(DOWN).saves(1, 1), -1);
        // More can be worse: what isn't paid is taken by the next one.
        DebtStreet odd = Checks.told("street ring;limit 20;pays:(cash-7)*(7-cash)+1;"
                + "house 0 spends 0 owes 21;house 0 spends 0 hedge 20;");
        C.due("just as much", odd.saves(0, 1), 7);
        DebtStreet most = Checks.told("street ring;limit 0;house 0 spends 50 owes 949;house 0 spends 0 hedge 20;");
        C.due("999", most.saves(0, 1), 999);
        most.plant(0, 0);
        Checks.tell(most, "street ring;limit 0;house 0 spends 50 owes 950;house 0 spends 0 hedge 20;");
        C.due("by none", most.saves(0, 1), -1);
    }

    private static void leastLimit() {
        DebtStreet x = Checks.told(DOWN);
        C.due("what comes by", x.leastLimit(1), 50);
        C.due("the limit stays", x.count(6), 20);
        DebtStreet own = Checks.told("street ring;limit 5;house 0 spends 5 owes 18;house 0 spends 0 hedge 20;");
        C.due("its own debt", own.leastLimit(1), 23);
        C.due("its own debt", own.leastLimit(20), 118);
        C.due("nothing", Checks.told("street ring;house 0 spends 0;").leastLimit(20), 0);
        C.due("gone ones aside", Checks.told("street ring;house 0 spends 0 empty owes 77;").leastLimit(20), 0);
        DebtStreet most = Checks.told("street ring;house 0 spends 0 owes 900 hedge 20;grows:99;");
        C.due("999", most.leastLimit(1), 999);
        C.due("by none", most.leastLimit(2), -1);
        Checks.tell(most, "street ring;house 0 spends 0 owes 900 hedge 20;grows:100;");
        C.due("1,000: by none", most.leastLimit(1), -1);
        // By each limit below somebody is lost, by this one and above nobody.
        String text = "house 9 spends 12 owes 25;house 20 spends 3 owes 9;house 1 spends 5 cash 9;grows:debt-20;limit ";
        int least = Checks.told("street ring;" + text + "1;").leastLimit(9);
        for (int limit = 0; limit <= 999; limit++) {
            C.due("limit " + limit, Checks.told("street ring;" + text + limit + ";").lost(9) == 0, limit >= least);
        }
    }

    private static void worth() {
        // House 1 pays off what comes from house 0; without it house 2 is ruined.
        DebtStreet x = Checks.told("street row;limit 20;house 0 spends 0 owes 30;house 30 spends 0;house 0 spends 0;"
                + "house 0 spends 0 empty;");
        C.due("itself is lost", x.lost(1), 1);
        C.due("worth(1, 1)", x.worth(1, 1), 0);
        DebtStreet y = Checks.told("street row;limit 50;house 0 spends 0 owes 30;house 30 spends 0;house 0 spends 0 owes 31;"
                + "house 0 spends 0 owes 21;house 0 spends 0;");
        C.due("nobody is lost", y.lost(20), 0);
        C.due("the others' debts are small", y.worth(1, 20), 0);
        DebtStreet pays = Checks.told("street row;limit 25;house 0 spends 0 owes 20;house 20 spends 0 owes 15;"
                + "house 0 spends 0;house 0 spends 6 hedge 2;");
        // If house 1 pays its 15 and the 20 that come, nothing goes on; else 15, then 20 are held at house 2 and go on to house 3.
        C.due("nobody is lost", pays.lost(3), 0);
        C.due("worth(1, 3)", pays.worth(1, 3), 2);
        C.due("worth(0, 3)", pays.worth(0, 3), 0);
        C.due("no deed", pays.count(9), 0);
        C.due("not gone", pays.household(1, 3), 0);
        // Who runs into debts ruins the next one.
        DebtStreet harm = Checks.told("street row;limit 20;house 0 spends 21;house 0 spends 0;house 0 spends 0;");
        C.due("both others are lost", harm.lost(2), 2);
        C.due("worth(0, 2)", harm.worth(0, 2), -2);
        C.due("its own loss is no other's", harm.worth(1, 2), 0);
    }

    private static void pillar() {
        DebtStreet x = Checks.told("street row;limit 25;house 0 spends 0 owes 20;house 20 spends 0 owes 15;"
                + "house 0 spends 0;house 0 spends 6 hedge 2;");
        C.due("pillar(3)", x.pillar(3), 1);
        C.due("pillar(1)", x.pillar(1), -1);
        x.swap(0, 1);
        C.due("where it swapped to", x.pillar(3), 0);
        DebtStreet seven = Checks.told("street ring;limit 25;house 0 spends 0 hedge 3;house 0 spends 0;house 0 spends 0;"
                + "house 0 spends 0 empty;house 0 spends 0 empty;house 0 spends 0 empty owes 24;house 26 spends 0 owes 20;");
        C.due("none: it has a hedge behind it", seven.pillar(3), -1);
        C.due("house 6", seven.pillar(4), 6);
        DebtStreet two = Checks.told("street ring;limit 9;house 5 spends 0 owes 5;house 5 spends 0 owes 5;"
                + "house 5 spends 0 owes 5;house 0 spends 0 owes 5 hedge 1;");
        C.due("the last of all", two.pillar(1), lastPillar(two, 1));
        C.due("the last of all", two.pillar(2), lastPillar(two, 2));
    }

    private static int lastPillar(DebtStreet x, int n) {
        int last = -1;
        for (int h = 0; h < x.count(1); h++) {
            if (x.household(h, 3) == 0 && x.worth(h, n) > 0) {
                last = h;
            }
        }
        return last;
    }
}
