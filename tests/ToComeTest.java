import java.util.NoSuchElementException;

/** Promises 19 to 27: debtIn, cashIn, ruinIn, lost, clear, seaIn, burden, heaviest, paid. */
public final class ToComeTest {
    private static final Checks C = new Checks();
    private static final Class<NoSuchElementException> N = NoSuchElementException.class;
    private static final Class<IllegalArgumentException> A = IllegalArgumentException.class;
    private static final String ROW = "street row;limit 40;house 0 spends 3 cash 7 owes 30;house 5 spends 5 cash 9;"
            + "house 6 spends 0 owes 41;";

    public static void main(String[] args) {
        asDone();
        bounds();
        ruinIn();
        lost();
        clear();
        seaIn();
        burdens();
        paid();
        C.end("ToComeTest");
    }

    /** What is asked ahead is what comes when the quarters pass, and asking changes nothing. */
    private static void asDone() {
        String[] texts = {ROW, "street ring;grows:debt-20;takes:own<30;pays:cash-quarter;limit 60;quarter 2;"
                + "house 9 spends 2 cash 5 owes 44 hedge 3;house 3 spends 9 cash 50 owes 12;house 20 spends 6 empty owes 7;"
                + "house 1 spends 1 cash 30;"};
        for (String text : texts) {
            DebtStreet then = Checks.told(text);
            int houses = then.count(1);
            int gone = then.count(2);
            for (int n = 0; n <= 40; n++) {
                DebtStreet x = Checks.told(text);
                for (int h = 0; h < houses; h++) {
                    C.due("debtIn(" + h + ", " + n + ")", x.debtIn(h, n), then.house(h, 0));
                    C.due("cashIn(" + h + ", " + n + ")", x.cashIn(h, n), then.household(h, 2));
                }
                C.due("seaIn(" + n + ")", x.seaIn(n), then.count(5));
                if (n > 0 && n <= 20) {
                    C.due("lost(" + n + ")", x.lost(n), then.count(2) - gone);
                }
                C.due("no deed", x.count(9), 0);
                C.due("no quarter", x.count(7), text.startsWith("street ring") ? 2 : 0);
                then.quarters(1);
            }
        }
    }

    private static void bounds() {
        DebtStreet x = Checks.told(ROW);
        C.refused("debtIn(3, 201)", N, () -> x.debtIn(3, 201));
        C.refused("debtIn(-1, 0)", N, () -> x.debtIn(-1, 0));
        C.refused("debtIn(0, 201)", A, () -> x.debtIn(0, 201));
        C.refused("debtIn(0, -1)", A, () -> x.debtIn(0, -1));
        C.refused("cashIn(3, 201)", N, () -> x.cashIn(3, 201));
        C.refused("cashIn(0, 201)", A, () -> x.cashIn(0, 201));
        C.refused("cashIn(0, -1)", A, () -> x.cashIn(0, -1));
        C.refused("seaIn(201)", A, () -> x.seaIn(201));
        C.refused("seaIn(-1)", A, () -> x.seaIn(-1));
        C.refused("ruinIn(3)", N, () -> x.ruinIn(3));
        C.refused("ruinIn(-1)", N, () -> x.ruinIn(-1));
        C.refused("burden(3, 0)", N, () -> x.burden(3, 0));
        C.refused("burden(-1, 0)", N, () -> x.burden(-1, 0));
        for (int n : new int[] {0, 21, -1, Integer.MAX_VALUE, Integer.MIN_VALUE}) {
            C.refused("lost(" + n + ")", A, () -> x.lost(n));
            C.refused("burden(0, " + n + ")", A, () -> x.burden(0, n));
            C.refused("heaviest(" + n + ")", A, () -> x.heaviest(n));
            C.refused("paid(" + n + ")", A, () -> x.paid(n));
        }
        C.due("200", x.cashIn(1, 200), 0);
        C.due("200", x.debtIn(2, 200), 3);
    }

    private static void ruinIn() {
        // Each quarter the debt of one alone in a ring is 3 more: 300 of these at 100 quarters, 603 at 201.
        DebtStreet x = Checks.told("street ring;house 0 spends 3;limit 299;");
        C.due("first above the limit", x.ruinIn(0), 100);
        DebtStreet last = Checks.told("street ring;house 0 spends 3;limit 599;");
        C.due("200", last.ruinIn(0), 200);
        DebtStreet late = Checks.told("street ring;house 0 spends 3;limit 600;");
        C.due("not by then", late.ruinIn(0), -1);
        late.quarters(1);
        C.due("a quarter on", late.ruinIn(0), 200);
        DebtStreet gone = Checks.told("street ring;house 0 spends 3 empty;house 1 spends 1;");
        C.due("gone now", gone.ruinIn(0), 0);
        C.due("never", gone.ruinIn(1), -1);
    }

    private static void lost() {
        DebtStreet x = Checks.told("street ring;limit 9;house 0 spends 10;house 9 spends 9;house 0 spends 2;"
                + "house 0 spends 0 empty owes 50 hedge 1;house 0 spends 0 hedge 20;");
        // 10 go from house 0 to house 1, from there to house 2, and all is held behind the hedge of house 4
        C.due("lost(1)", x.lost(1), 1);
        C.due("lost(2)", x.lost(2), 2);
        C.due("lost(20)", x.lost(20), 2);
        C.due("gone now are not lost", x.count(2), 1);
        C.due("no houses", new DebtStreet().lost(20), 0);
    }

    private static void clear() {
        DebtStreet x = Checks.told("street row;house 0 spends 0 owes 5;house 0 spends 0;house 0 spends 0;");
        C.due("down to the sea", x.clear(), 3);
        x.quarters(3);
        C.due("now", x.clear(), 0);
        DebtStreet slow = Checks.told("street row;house 1 spends 0 empty owes 9;house 1 spends 0;takes:quarter=198;");
        C.due("200", slow.clear(), 200);
        DebtStreet slower = Checks.told("street row;house 1 spends 0 empty owes 9;house 1 spends 0;takes:quarter>198;");
        C.due("not by then", slower.clear(), -1);
        C.due("no houses", new DebtStreet().clear(), 0);
    }

    private static void seaIn() {
        DebtStreet x = Checks.told("street row;house 0 spends 7 cash 3;house 0 spends 0 owes 100;");
        C.due("0", x.seaIn(0), 0);
        C.due("1", x.seaIn(1), 100);
        C.due("2", x.seaIn(2), 104);
        C.due("3", x.seaIn(3), 111);
        x.quarters(2);
        C.due("with what has till now", x.seaIn(0), 104);
        C.due("with what has till now", x.seaIn(1), 111);
        C.due("a ring has no sea", Checks.told("street ring;house 0 spends 1;").seaIn(50), 0);
        C.due("no houses", new DebtStreet().seaIn(200), 0);
    }

    private static void burdens() {
        DebtStreet x = Checks.told("street ring;limit 999;house 0 spends 0 owes 4;house 0 spends 0 owes 30;"
                + "house 0 spends 0 owes 200;");
        C.due("burden(0, 1)", x.burden(0, 1), 200);
        C.due("burden(0, 2)", x.burden(0, 2), 230);
        C.due("burden(0, 3)", x.burden(0, 3), 234);
        C.due("burden(1, 1)", x.burden(1, 1), 4);
        C.due("burden(2, 20)", x.burden(2, 20), 6 * 234 + 30 + 4);
        C.due("heaviest(1)", x.heaviest(1), 0);
        C.due("heaviest(3): the first", x.heaviest(3), 0);
        C.due("heaviest(2)", x.heaviest(2), 0);
        C.due("nothing goes: the first", Checks.told("street row;house 0 spends 0;house 0 spends 0;").heaviest(5), 0);
        C.due("no houses", new DebtStreet().heaviest(5), -1);
        DebtStreet row = Checks.told("street row;limit 5;house 0 spends 0 owes 6;house 0 spends 0 owes 6;"
                + "house 0 spends 0 empty;");
        C.due("the last", row.heaviest(2), 2);
        C.due("of one ruined", row.burden(1, 3), 6);
        C.due("of a gone one", row.burden(2, 3), 12);
        C.due("the first house of a row", row.burden(0, 20), 0);
        Checks.tell(x, "street row;house 0 spends 0 owes 9;house 0 spends 0;");
        C.due("a row now, nothing comes round", x.burden(0, 9), 0);
        C.due("to house 1", x.burden(1, 9), 9);
        DebtStreet much = Checks.told("street ring;house 0 spends 0 owes 999 empty;grows:999;");
        for (int i = 0; i < 11; i++) {
            much.quarters(99);
        }
        C.due("a long", much.burden(0, 20), 19_999_980);
    }

    private static void paid() {
        DebtStreet x = Checks.told("street ring;limit 999;house 5 spends 0 owes 100;house 0 spends 0 cash 40 owes 8;"
                + "house 9 spends 0 empty owes 1;");
        // 5 and 8; then 1, that came round, and 32 of the 95 that came
        C.due("paid(1)", x.paid(1), 13);
        C.due("paid(2)", x.paid(2), 13 + 1 + 32);
        C.due("no houses", new DebtStreet().paid(20), 0);
        DebtStreet law = Checks.told("street ring;pays:2;limit 999;house 5 spends 0 owes 100;house 5 spends 0 owes 3;");
        C.due("by the law", law.paid(1), 4);
        // of 98 and 1: 1 and 2; then 2 of what is left of the 98, wherever it is
        C.due("by the law", law.paid(5), 4 + 3 + 2 + 2 + 2);
    }
}
