import java.util.NoSuchElementException;

/** The bounds that the document names for deeds, told deeds and years, and promises 10 to 18. */
public final class DeedsBoundsTest {
    private static final Checks C = new Checks();
    private static final Class<NoSuchElementException> N = NoSuchElementException.class;
    private static final Class<IllegalArgumentException> A = IllegalArgumentException.class;
    private static final Class<IllegalStateException> S = IllegalStateException.class;
    private static final int[] FAR = {-1, 7, 8, 10, Integer.MIN_VALUE, Integer.MAX_VALUE};
    // Houses by what can be done there: cash 10, 9, 0, 50, gone, 1, gone; debt 5, 5, 5, 0, 7, 1, 0.
    private static final int[] CASH = {10, 9, 0, 50, 0, 1, 0};
    private static final int[] DEBT = {5, 5, 5, 0, 7, 1, 0};
    private static final boolean[] GONE = {false, false, false, false, true, false, true};

    public static void main(String[] args) {
        swapsOfSeven();
        swapsOfGoneOnes();
        giftsOfOneTo999();
        giftsOfAllItHas();
        giftsThatCannotBe();
        hedgesOfNoneToTwenty();
        paidOffOfOneTo999();
        paidOffAtMost();
        paidOffWhereItCannotBe();
        quartersOfOneTo99();
        tenDeeds();
        undoneOfOneToTen();
        refusedOnesAreNoDeeds();
        deedsOfEachKind();
        toldDeeds();
        toldDeedsOfFewHouses();
        toldDeedsAreDone();
        placesOfTrays();
        whatIsJudged();
        timesOfAYear();
        draws();
        yearsWithoutHouses();
        callsOfOneObject();
        C.end("DeedsBoundsTest");
    }

    private static String street(int houses) {
        StringBuilder text = new StringBuilder("street ring;limit 500;");
        for (int h = 0; h < houses; h++) {
            text.append("house ").append(h + 1).append(" spends ").append(2 * h).append(" cash ").append(CASH[h]);
            text.append(" owes ").append(DEBT[h]).append(" hedge ").append(h % 3).append(GONE[h] ? " empty;" : ";");
        }
        return text.toString();
    }

    /** All that can be seen of houses and households, and what is counted. */
    private static void like(String name, DebtStreet got, DebtStreet want) {
        for (int what = 0; what < 11; what++) {
            C.due(name + ": count(" + what + ")", got.count(what), want.count(what));
        }
        likeHouses(name, got, want);
    }

    private static void likeHouses(String name, DebtStreet got, DebtStreet want) {
        for (int h = 0; h < want.count(1); h++) {
            for (int what = 0; what < 3; what++) {
                C.due(name + ": house(" + h + ", " + what + ")", got.house(h, what), want.house(h, what));
            }
            for (int what = 0; what < 4; what++) {
                C.due(name + ": household(" + h + ", " + what + ")", got.household(h, what), want.household(h, what));
            }
        }
    }

    /** Promise 10: "1 no such HOUSE, number, both one"; "DEBT of both HOUSES together". */
    private static void swapsOfSeven() {
        DebtStreet x = Checks.told(street(7));
        for (int g = 0; g < 7; g++) {
            for (int h = 0; h < 7; h++) {
                C.due("swap(" + g + ", " + h + ")", x.swap(g, h), g == h ? -1 : DEBT[g] + DEBT[h]);
                if (g != h) {
                    C.due("its earner", x.household(h, 0), g + 1);
                    C.due("its debts stay", x.house(h, 0), DEBT[h]);
                    x.undo(1);
                }
            }
            for (int far : FAR) {
                C.due("swap(" + g + ", " + far + ")", x.swap(g, far), -1);
                C.due("swap(" + far + ", " + g + ")", x.swap(far, g), -1);
                C.due("swap(" + far + ", " + far + ")", x.swap(far, far), -1);
            }
        }
        C.due("none is left", x.count(9), 0);
        like("swapped and back", x, Checks.told(street(7)));
        DebtStreet none = Checks.told("street ring;house 0 spends 0;house 0 spends 0;");
        C.due("no debts: 0, and it was done", none.swap(0, 1), 0);
        C.due("a deed", none.count(9), 1);
        C.due("999 and 999", Checks.told("street ring;house 0 spends 0 owes 999;house 0 spends 0 owes 999;").swap(1, 0), 1998);
        C.due("one house", Checks.told("street ring;house 0 spends 0;").swap(0, 0), -1);
        C.due("one house", Checks.told("street ring;house 0 spends 0;").swap(0, 1), -1);
        C.due("no house", new DebtStreet().swap(0, 0), -1);
    }

    /** "two households (GONE or not) change HOUSES". */
    private static void swapsOfGoneOnes() {
        DebtStreet x = Checks.told(street(7));
        C.due("one gone", x.swap(3, 4), 7);
        C.due("gone at 3", x.household(3, 3), 1);
        C.due("not at 4", x.household(4, 3), 0);
        C.due("its cash", x.household(4, 2), 50);
        C.due("both gone", x.swap(3, 6), 0);
        C.due("gone at 3 still", x.household(3, 3), 1);
        C.due("the other one", x.household(3, 0), 7);
    }

    /** Promise 11: "n (1 to 999)"; "1 ... number". */
    private static void giftsOfOneTo999() {
        DebtStreet x = Checks.told("street row;house 0 spends 0 cash 999;house 0 spends 0 cash 999;");
        for (int n : new int[] {0, -1, 1000, 1001, Integer.MIN_VALUE, Integer.MAX_VALUE}) {
            C.due("gift of " + n, x.gift(0, 1, n), -1);
        }
        C.due("no deeds", x.count(9), 0);
        C.due("of 1", x.gift(0, 1, 1), 998);
        C.due("given", x.household(1, 2), 1000);
        C.due("of 999: it hasn't so much", x.gift(0, 1, 999), -3);
        C.due("of 999", x.gift(1, 0, 999), 1);
        C.due("given", x.household(0, 2), 1997);
        C.due("of 1000, though it has so much", x.gift(0, 1, 1000), -1);
    }

    /** 3: "it hasn't so much CASH (GIFT)". */
    private static void giftsOfAllItHas() {
        for (int cash = 0; cash <= 12; cash++) {
            for (int n = 1; n <= 13; n++) {
                DebtStreet x = Checks.told("street row;house 5 spends 0 cash " + cash + ";house 0 spends 9 cash 3;");
                C.due("gift of " + n + ", cash " + cash, x.gift(0, 1, n), n <= cash ? cash - n : -3);
                C.due("cash then", x.household(0, 2), n <= cash ? cash - n : cash);
                C.due("given", x.household(1, 2), n <= cash ? 3 + n : 3);
                C.due("deeds", x.count(9), n <= cash ? 1 : 0);
            }
        }
    }

    /** The least kind of why it can't be. */
    private static void giftsThatCannotBe() {
        DebtStreet x = Checks.told(street(7));
        for (int g = -1; g <= 7; g++) {
            for (int h = -1; h <= 7; h++) {
                boolean no = g < 0 || h < 0 || g > 6 || h > 6 || g == h;
                int want = no ? -1 : GONE[g] || GONE[h] ? -2 : CASH[g] < 10 ? -3 : CASH[g] - 10;
                C.due("gift(" + g + ", " + h + ", 10)", x.gift(g, h, 10), want);
                C.due("gift(" + g + ", " + h + ", 0)", x.gift(g, h, 0), -1);
                C.due("gift(" + g + ", " + h + ", 1000)", x.gift(g, h, 1000), -1);
                C.due("gift(" + g + ", " + h + ", 999)", x.gift(g, h, 999), want > 0 || want == 0 ? -3 : want);
                if (want >= 0) {
                    x.undo(1);
                }
            }
        }
        for (int far : FAR) {
            C.due("gift(" + far + ", 0, 1)", x.gift(far, 0, 1), -1);
            C.due("gift(0, " + far + ", 1)", x.gift(0, far, 1), -1);
        }
        like("as told", x, Checks.told(street(7)));
    }

    /** Promise 12: "n QUARTERS (0 to 20; in place of what there is): for how many it was". */
    private static void hedgesOfNoneToTwenty() {
        DebtStreet x = Checks.told("street row;house 0 spends 0 hedge 20;house 0 spends 0 empty;");
        int before = 20;
        for (int n : new int[] {0, 1, 20, 19, 0, 0, 20, 20}) {
            C.due("plant(0, " + n + ")", x.plant(0, n), before);
            C.due("planted", x.house(0, 1), n);
            before = n;
        }
        C.due("deeds, though some change nothing", x.count(9), 8);
        for (int n : new int[] {-1, 21, 22, Integer.MIN_VALUE, Integer.MAX_VALUE}) {
            C.refused("plant(0, " + n + ")", A, () -> x.plant(0, n));
            C.refused("told first: plant(2, " + n + ")", N, () -> x.plant(2, n));
            C.refused("told first: plant(-1, " + n + ")", N, () -> x.plant(-1, n));
        }
        C.due("as it was", x.house(0, 1), 20);
        C.due("deeds", x.count(9), 8);
        C.due("where one is gone", x.plant(1, 20), 0);
        C.refused("plant(2, 1)", N, () -> x.plant(2, 1));
        C.refused("plant(-1, 1)", N, () -> x.plant(-1, 1));
        C.refused("no house", N, () -> new DebtStreet().plant(0, 0));
    }

    /** Promise 13: "n (1 to 999 ...)". */
    private static void paidOffOfOneTo999() {
        DebtStreet x = Checks.told("street row;house 0 spends 0 cash 999 owes 999;");
        for (int n : new int[] {0, -1, 1000, 1001, Integer.MIN_VALUE, Integer.MAX_VALUE}) {
            C.due("payOff(0, " + n + ")", x.payOff(0, n), -1);
        }
        C.due("no deeds", x.count(9), 0);
        C.due("1", x.payOff(0, 1), 1);
        C.due("debt", x.house(0, 0), 998);
        C.due("cash", x.household(0, 2), 998);
        C.due("undone", x.undo(1), 0);
        C.due("999", x.payOff(0, 999), 999);
        C.due("debt", x.house(0, 0), 0);
        C.due("cash", x.household(0, 2), 0);
        // 999 of more: no more than n.
        DebtStreet rich = Checks.told("street ring;grows:900;pays:0;limit 999;takes:1=2;house 99 spends 0 cash 999;"
                + "house 0 spends 0 empty owes 999;");
        rich.quarters(2);
        rich.swap(0, 1);
        C.due("cash", rich.household(1, 2), 1197);
        C.due("999 of 1197", rich.payOff(1, 999), 999);
        C.due("the rest", rich.payOff(1, 999), 198);
        C.due("debt", rich.house(1, 0), 2799 - 1197);
    }

    /** Promise 13: "more than CASH, than DEBT: as much as can be". */
    private static void paidOffAtMost() {
        for (int cash = 1; cash <= 6; cash++) {
            for (int debt = 1; debt <= 6; debt++) {
                for (int n = 1; n <= 7; n++) {
                    DebtStreet x = Checks.told("street row;house 0 spends 0 cash " + cash + " owes " + debt + ";");
                    int paid = Math.min(n, Math.min(cash, debt));
                    C.due("payOff(0, " + n + ") of " + cash + ", " + debt, x.payOff(0, n), paid);
                    C.due("cash then", x.household(0, 2), cash - paid);
                    C.due("debt then", x.house(0, 0), debt - paid);
                    C.due("a deed", x.count(9), 1);
                }
            }
        }
    }

    /** 2: "a household is GONE (... to PAY OFF)"; 3: "it has none or there is no DEBT (to PAY OFF)". */
    private static void paidOffWhereItCannotBe() {
        DebtStreet x = Checks.told(street(7));
        for (int h = -1; h <= 7; h++) {
            boolean no = h < 0 || h > 6;
            int want = no ? -1 : GONE[h] ? -2 : CASH[h] == 0 || DEBT[h] == 0 ? -3 : 1;
            C.due("payOff(" + h + ", 1)", x.payOff(h, 1), want);
            C.due("payOff(" + h + ", 0)", x.payOff(h, 0), -1);
            C.due("payOff(" + h + ", 1000)", x.payOff(h, 1000), -1);
            if (want >= 0) {
                x.undo(1);
            }
        }
        for (int far : FAR) {
            C.due("payOff(" + far + ", 1)", x.payOff(far, 1), -1);
        }
        like("as told", x, Checks.told(street(7)));
    }

    /** Promise 14: "n QUARTERS (1 to 99): how many were RUINED in these". */
    private static void quartersOfOneTo99() {
        // One of seven is ruined in the first quarter, one in the 99th, one in the 100th.
        DebtStreet x = Checks.told("street ring;takes:1=2;limit 99;house 0 spends 1;house 1 spends 1 owes 100;house 0 spends 1 owes 1;"
                + "house 0 spends 0;house 0 spends 0 empty owes 999;");
        for (int n : new int[] {0, -1, 100, 101, Integer.MIN_VALUE, Integer.MAX_VALUE}) {
            C.refused("quarters(" + n + ")", A, () -> x.quarters(n));
        }
        C.due("nothing is done", x.count(7), 0);
        C.due("no deeds", x.count(9), 0);
        C.due("1", x.quarters(1), 1);
        C.due("QUARTER", x.count(7), 1);
        x.undo(1);
        C.due("98", x.quarters(98), 1);
        x.undo(1);
        C.due("99", x.quarters(99), 2);
        C.due("QUARTER", x.count(7), 99);
        C.due("one deed", x.count(9), 1);
        C.due("the 100th", x.quarters(1), 1);
        C.due("no more", x.quarters(99), 0);
        C.due("QUARTER", x.count(7), 199);
        C.due("gone", x.count(2), 4);
        DebtStreet none = new DebtStreet();
        C.due("no houses", none.quarters(99), 0);
        C.due("QUARTER", none.count(7), 99);
        C.due("a deed", none.count(9), 1);
        C.due("undone", none.undo(1), 0);
        C.due("QUARTER", none.count(7), 0);
    }

    /** "each can be UNDONE, the latest first, 10 at most (eldest are forgotten)". */
    private static void tenDeeds() {
        for (int many = 0; many <= 23; many++) {
            DebtStreet x = Checks.told("street row;house 0 spends 0;");
            for (int i = 1; i <= many; i++) {
                x.plant(0, i % 21);
                C.due("deeds", x.count(9), Math.min(i, 10));
            }
            int kept = Math.min(many, 10);
            C.refused("one more than there are", A, () -> x.undo(kept + 1));
            if (kept > 0) {
                C.due("all of " + kept, x.undo(kept), 0);
            }
            C.due("as ahead of these", x.house(0, 1), (many - kept) % 21);
            C.refused("none is left", A, () -> x.undo(1));
            x.plant(0, 20);
            C.due("one again", x.count(9), 1);
            C.due("undone", x.undo(1), 0);
            C.due("as ahead of it", x.house(0, 1), (many - kept) % 21);
        }
    }

    /** Promise 15: "n isn't 1 to 10, there aren't so many"; "how many still can be". */
    private static void undoneOfOneToTen() {
        for (int many = 1; many <= 10; many++) {
            for (int n = 1; n <= 10; n++) {
                DebtStreet x = Checks.told("street row;house 0 spends 0;");
                for (int i = 1; i <= many; i++) {
                    x.plant(0, i);
                }
                int undone = n;
                if (n > many) {
                    C.refused("undo(" + n + ") of " + many, A, () -> x.undo(undone));
                    C.due("as it was", x.house(0, 1), many);
                    C.due("deeds", x.count(9), many);
                } else {
                    C.due("undo(" + n + ") of " + many, x.undo(n), many - n);
                    C.due("as it was", x.house(0, 1), many - n);
                    C.due("deeds", x.count(9), many - n);
                }
            }
        }
        DebtStreet x = Checks.told("street row;house 0 spends 0;");
        for (int i = 0; i < 12; i++) {
            x.plant(0, i);
        }
        for (int n : new int[] {0, -1, 11, 12, Integer.MIN_VALUE, Integer.MAX_VALUE}) {
            C.refused("undo(" + n + ")", A, () -> x.undo(n));
        }
        C.due("as it was", x.house(0, 1), 11);
        C.due("one by one", x.undo(1), 9);
        C.due("one by one", x.undo(1), 8);
        C.due("as it was", x.house(0, 1), 9);
    }

    private static void refusedOnesAreNoDeeds() {
        DebtStreet x = Checks.told(street(7));
        x.plant(0, 5);
        x.plant(0, 6);
        int[] no = {x.swap(0, 0), x.swap(0, 7), x.gift(0, 1, 0), x.gift(0, 4, 1), x.gift(0, 1, 11), x.payOff(7, 1), x.payOff(4, 1),
            x.payOff(2, 1), x.payOff(3, 1)};
        int[] why = {-1, -1, -1, -2, -3, -1, -2, -3, -3};
        for (int i = 0; i < no.length; i++) {
            C.due("refused " + i, no[i], why[i]);
        }
        C.refused("refused", A, () -> x.plant(0, 21));
        C.refused("refused", A, () -> x.quarters(100));
        C.refused("refused", A, () -> x.year(1, 31));
        C.due("two deeds", x.count(9), 2);
        C.due("the latest of these", x.undo(1), 1);
        C.due("hedge", x.house(0, 1), 5);
    }

    /** "DEEDS: one of these, QUARTERS of one call". */
    private static void deedsOfEachKind() {
        DebtStreet x = Checks.told(street(7));
        DebtStreet[] ahead = new DebtStreet[6];
        for (int done = 0; done < 6; done++) {
            ahead[done] = Checks.told(street(7));
            for (int i = 0; i < done; i++) {
                deed(ahead[done], i);
            }
        }
        for (int i = 0; i < 5; i++) {
            deed(x, i);
            C.due("deeds", x.count(9), i + 1);
        }
        for (int left = 4; left >= 0; left--) {
            C.due("undone", x.undo(1), left);
            like("undone to " + left, x, ahead[left]);
        }
    }

    private static void deed(DebtStreet x, int kind) {
        int answer = kind == 0 ? x.swap(0, 3) : kind == 1 ? x.gift(0, 1, 30) : kind == 2 ? x.plant(6, 9)
                : kind == 3 ? x.payOff(0, 999) : x.quarters(60);
        C.due("done " + kind, answer >= 0, true);
    }

    /** Why a told deed can't be, by the document's own words; 0: it can. */
    private static int why(long v, int houses) {
        if (v == -1) {
            return 0;
        }
        int g = (int) (v / 10 % 10);
        int h = (int) (v % 10);
        if (v >= 0 && v <= 99) {
            return g < houses && h < houses && g != h ? 0 : 1;
        }
        if (v >= 100 && v <= 109) {
            return h < houses ? 0 : 1;
        }
        if (v >= 200 && v <= 209) {
            return h >= houses ? 1 : GONE[h] ? 2 : CASH[h] == 0 || DEBT[h] == 0 ? 3 : 0;
        }
        if (v >= 300 && v <= 399) {
            return g >= houses || h >= houses || g == h ? 1 : GONE[g] || GONE[h] ? 2 : CASH[g] < 10 ? 3 : 0;
        }
        return 1;
    }

    /** "0 to 99", "100 to 109", "200 to 209", "300 to 399", "NONE", "They can't be: 1 ..., 2 ..., 3 ...". */
    private static void toldDeeds() {
        for (long v = -3; v <= 420; v++) {
            judged(v, 7);
        }
        for (long v : new long[] {999, 1000, 1001, 65636, Integer.MAX_VALUE, Integer.MIN_VALUE, Long.MAX_VALUE, Long.MIN_VALUE, 1L << 32,
            (1L << 32) + 100, (1L << 32) - 1, (1L << 16) + 1, -101, -300}) {
            judged(v, 7);
        }
    }

    private static void judged(long v, int houses) {
        DebtStreet x = Checks.told(street(houses));
        Checks.fill(x, 0, 3, v);
        int want = why(v, houses);
        C.due("why of " + v + ", " + houses + " houses", x.judge(0, 1), want);
        C.due("place of " + v + ", " + houses + " houses", x.judge(0, 0), want == 0 ? -1 : 0);
        C.due("QUARTER of " + v, x.judge(0, 3), v == -1 ? 1 : 0);
        C.due("nothing is done", x.count(9), 0);
    }

    private static void toldDeedsOfFewHouses() {
        for (int houses = 0; houses <= 6; houses++) {
            for (int v = -2; v <= 400; v++) {
                judged(v, houses);
            }
        }
    }

    /** What is done is what the calls do: a HEDGE for 4, all it can, a GIFT of 10. */
    private static void toldDeedsAreDone() {
        for (int v = -1; v <= 399; v++) {
            if (why(v, 7) != 0) {
                continue;
            }
            DebtStreet x = Checks.told(street(7));
            DebtStreet y = Checks.told(street(7));
            Checks.fill(x, 1, 1, v);
            int g = v / 10 % 10;
            int h = v % 10;
            int done = v < 0 ? y.quarters(1) : v < 100 ? y.swap(g, h) : v < 200 ? y.plant(h, 4) : v < 300 ? y.payOff(h, 999)
                    : y.gift(g, h, 10);
            C.due("can be: " + v, done >= 0, true);
            C.due("debt judged of " + v, x.judge(1, 2), y.count(3));
            C.due("QUARTER judged of " + v, x.judge(1, 3), y.count(7));
            C.due("done " + v, x.perform(1), 1);
            like("done " + v, x, y);
        }
    }

    /** Promises 16, 17: the first place, the last one (29), an empty tray; "till one can't be". */
    private static void placesOfTrays() {
        for (int many = 0; many <= 30; many++) {
            for (int bad = 0; bad <= many; bad++) {
                DebtStreet x = Checks.told(street(3));
                x.tray(2, 0, many);
                for (int i = 0; i < many; i++) {
                    x.write(2, i, i == bad ? -2 : -1);
                }
                C.due("the first place of " + many, x.judge(2, 0), bad < many ? bad : -1);
                C.due("why", x.judge(2, 1), bad < many ? 1 : 0);
                C.due("QUARTER", x.judge(2, 3), bad);
                C.due("done", x.perform(2), bad);
                C.due("QUARTER", x.count(7), bad);
                C.due("deeds", x.count(9), Math.min(bad, 10));
                if (bad > 0) {
                    C.due("undone", x.undo(Math.min(bad, 10)), 0);
                }
                C.due("QUARTER", x.count(7), Math.max(bad - 10, 0));
            }
        }
    }

    /** Promise 16: what 0 to 3; no such tray, missing, another what, told in this order. */
    private static void whatIsJudged() {
        DebtStreet x = Checks.told(street(7));
        for (int t = 0; t < 3; t++) {
            x.tray(t, t, 0);
            C.due("place", x.judge(t, 0), -1);
            C.due("why", x.judge(t, 1), 0);
            C.due("debt", x.judge(t, 2), 23);
            C.due("QUARTER", x.judge(t, 3), 0);
        }
        for (int what : new int[] {-1, 4, 5, Integer.MIN_VALUE, Integer.MAX_VALUE}) {
            C.refused("judge(0, " + what + ")", A, () -> x.judge(0, what));
            C.refused("missing: judge(3, " + what + ")", S, () -> x.judge(3, what));
            C.refused("no such: judge(4, " + what + ")", N, () -> x.judge(4, what));
            C.refused("no such: judge(-1, " + what + ")", N, () -> x.judge(-1, what));
        }
        C.refused("missing: judge(3, 0)", S, () -> x.judge(3, 0));
        C.refused("missing: perform(3)", S, () -> x.perform(3));
        for (int t : new int[] {-1, 4, Integer.MIN_VALUE, Integer.MAX_VALUE}) {
            C.refused("judge(" + t + ", 0)", N, () -> x.judge(t, 0));
            C.refused("perform(" + t + ")", N, () -> x.perform(t));
        }
        // A deed judged stands on those ahead of it: cash given on, paid off, none left.
        Checks.fill(x, 3, 1, 330, 303, 200, 200);
        C.due("given there and back, paid off; then there is no debt", x.judge(3, 0), 3);
        C.due("why", x.judge(3, 1), 3);
        C.due("debt", x.judge(3, 2), 18);
        Checks.fill(x, 3, 1, 303, 301, 100);
        C.due("10 given, none is left", x.judge(3, 0), 1);
        C.due("why", x.judge(3, 1), 3);
        Checks.fill(x, 3, 1, 330, 303, 301, 312);
        C.due("10 given first: enough to give", x.judge(3, 0), -1);
    }

    /** Promise 18: "so many times (1 to 30)". */
    private static void timesOfAYear() {
        DebtStreet x = Checks.told(street(7));
        for (int times : new int[] {0, -1, 31, 32, Integer.MIN_VALUE, Integer.MAX_VALUE}) {
            C.refused("year(1, " + times + ")", A, () -> x.year(1, times));
        }
        like("nothing is done", x, Checks.told(street(7)));
        for (int times = 1; times <= 30; times++) {
            likeDrawn(5, times, 7);
        }
    }

    /** "x, an int; a DRAW: x becomes 1103515245 x + 12345, it is x >>> 16": seeds at the ends of what an int can be. */
    private static void draws() {
        int[] seeds = {0, 1, -1, 2, -2, Integer.MAX_VALUE, Integer.MIN_VALUE, Integer.MAX_VALUE - 1, Integer.MIN_VALUE + 1, 65535, 65536,
            -65536, 1 << 30, 12345, -12345, 1103515245, -1103515245};
        for (int seed : seeds) {
            for (int houses = 1; houses <= 7; houses++) {
                likeDrawn(seed, 30, houses);
                likeDrawn(seed, 9, houses);
            }
        }
    }

    private static long drawn;

    private static int draw(int modulo) {
        drawn = (1103515245L * drawn + 12345L) & 0xffffffffL;
        return (int) ((drawn >> 16) % modulo);
    }

    /** A year, and the same done by its calls. */
    private static void likeDrawn(int seed, int times, int houses) {
        DebtStreet x = Checks.told(street(houses));
        DebtStreet y = Checks.told(street(houses));
        drawn = seed & 0xffffffffL;
        int done = 0;
        for (int i = 0; i < times; i++) {
            int sort = draw(6);
            int first = sort < 2 ? 0 : draw(houses);
            int second = sort == 2 || sort == 5 ? draw(houses) : 0;
            int answer = sort < 2 ? y.quarters(1) : sort == 2 ? y.swap(first, second) : sort == 3 ? y.plant(first, 4)
                    : sort == 4 ? y.payOff(first, 999) : y.gift(first, second, 10);
            done += answer >= 0 ? 1 : 0;
        }
        String name = "year(" + seed + ", " + times + ") of " + houses;
        C.due(name, x.year(seed, times), done);
        like(name, x, y);
        for (int left = y.count(9); left > 0; left--) {
            x.undo(1);
            y.undo(1);
            // All of seven houses are 49 calls.
            if (left % 2 == 1) {
                likeHouses(name + ", undone to " + left, x, y);
            }
        }
    }

    /** "(without HOUSES: QUARTERS alone, no more DRAWS)". */
    private static void yearsWithoutHouses() {
        for (int seed = -50; seed < 50; seed++) {
            drawn = seed * 40503 & 0xffffffffL;
            int quarters = 0;
            for (int i = 0; i < 30; i++) {
                quarters += draw(6) < 2 ? 1 : 0;
            }
            DebtStreet x = Checks.told("street ring;quarter 7;");
            C.due("year of " + seed * 40503, x.year(seed * 40503, 30), quarters);
            C.due("QUARTER", x.count(7), 7 + quarters);
            C.due("deeds", x.count(9), Math.min(quarters, 10));
        }
    }

    /** "An object is used for at most 512 calls": the 512th answers as the first ones do. */
    private static void callsOfOneObject() {
        DebtStreet plants = new DebtStreet();
        plants.feed(0x73747265, 0x65742072, 0x6f773b68, 0x6f757365, 0x20312073);
        plants.feed(0x70656e64, 0x7320323b, 0x20202020, 0x20202020, 0x20202020);
        plants.street(28);
        for (int call = 4; call <= 512; call++) {
            C.due("call " + call, plants.plant(0, call % 21), call == 4 ? 0 : (call - 1) % 21);
        }
        DebtStreet quarters = new DebtStreet();
        for (int call = 1; call <= 511; call++) {
            quarters.quarters(99);
        }
        C.due("call 512", quarters.count(7), 511 * 99);
        DebtStreet texts = new DebtStreet();
        for (int call = 1; call <= 511; call += 2) {
            C.due("call " + call, texts.feed(0x73747265, 0x65742072, 0x6f773b20, 0x20202020, 0x20202020), 20);
            C.due("call " + (call + 1), texts.street(20), 1);
        }
        DebtStreet images = Checks.told("street row;house 0 spends 0;");
        for (int call = 4; call <= 509; call += 3) {
            images.plant(0, call % 21);
            images.image(call % 3);
            images.restore(call % 3);
        }
        C.due("call 511", images.count(9), 10);
        C.due("call 512", images.undo(10), 0);
    }
}
