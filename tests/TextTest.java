/** Promises 1 to 4: a new object, feed, street, fault; the language of texts and its faults. */
public final class TextTest {
    private static final Checks C = new Checks();

    public static void main(String[] args) {
        newObject();
        feed();
        street();
        lines();
        faultsOfTokens();
        faultsOfPlace();
        faultsOfBounds();
        faultsOfMany();
        laws();
        C.end("TextTest");
    }

    private static void newObject() {
        DebtStreet x = new DebtStreet();
        int[] want = {0, 0, 0, 0, 0, 0, 100, 0, 0, 0, 0, -1};
        for (int what = 0; what < want.length; what++) {
            C.due("new: count(" + what + ")", x.count(what), want[what]);
        }
        C.due("new: fault(0)", x.fault(0), 0);
        C.due("new: fault(1)", x.fault(1), -1);
        for (int tray = 0; tray < 4; tray++) {
            int t = tray;
            C.refused("new: perform(" + t + ")", IllegalStateException.class, () -> x.perform(t));
        }
        for (int i = 0; i < 3; i++) {
            int k = i;
            C.refusedDeed("new: restore(" + k + ")", IllegalStateException.class, () -> x.restore(k));
        }
        C.refused("new: house(0, 0)", java.util.NoSuchElementException.class, () -> x.house(0, 0));
    }

    private static void feed() {
        DebtStreet x = new DebtStreet();
        // "street row;house 1 s" with the highest byte of each int first
        C.due("feed", x.feed(0x73747265, 0x65742072, 0x6f773b68, 0x6f757365, 0x20312073), 20);
        C.due("feed", x.feed(0x70656e64, 0x7320323b, 0x20202020, 0x20202020, 0x80808080), 40);
        C.due("count(10)", x.count(10), 40);
        C.due("street(28)", x.street(28), 2);
        C.due("earns", x.household(0, 0), 1);
        C.due("spends", x.household(0, 1), 2);
        C.due("the tape is empty", x.count(10), 0);
        for (int i = 1; i <= 45; i++) {
            C.due("feed " + i, x.feed(0, 0, 0, 0, 0), 20 * i);
        }
        C.due("a full tape", x.feed(1, 2, 3, 4, 5), -1);
        C.due("a full tape stays", x.count(10), 900);
        C.due("street(900)", x.street(900), -11);
        C.due("the place", x.fault(1), 0);
        C.due("empty again", x.count(10), 0);
    }

    private static void street() {
        DebtStreet x = Checks.told("street ring;house 5 spends 6 cash 7 owes 8 hedge 2;limit 9;quarter 3;");
        C.due("count(0)", x.count(0), 4);
        x.quarters(1);
        x.plant(0, 3);
        Checks.feed(x, "street row;");
        C.refused("street(-1)", IllegalArgumentException.class, () -> x.street(-1));
        C.refused("street(21)", IllegalArgumentException.class, () -> x.street(21));
        C.due("the tape stays", x.count(10), 20);
        C.due("a fault", x.street(10), -12);
        C.due("all else stays: lines", x.count(0), 4);
        C.due("all else stays: deeds", x.count(9), 2);
        C.due("all else stays: quarter", x.count(7), 4);
        C.due("all else stays: limit", x.count(6), 9);
        C.due("but the tape", x.count(10), 0);
        C.due("fault(0)", x.fault(0), 2);
        C.due("fault(1)", x.fault(1), 10);
        C.due("fault(2)", x.fault(2), -1);
        C.due("fault(-1)", x.fault(-1), -1);
        C.refused("street(1)", IllegalArgumentException.class, () -> x.street(1));
        C.due("a throw leaves the fault", x.fault(1), 10);
        C.due("told again", Checks.tell(x, "street row;house 1 spends 0 owes 5;"), 2);
        C.due("no fault", x.fault(0), 0);
        C.due("no place", x.fault(1), -1);
        C.due("no deeds", x.count(9), 0);
        C.due("limit", x.count(6), 100);
        C.due("quarter", x.count(7), 0);
        x.quarters(2);
        C.due("came to the sea", x.count(5), 4);
        C.due("told again", Checks.tell(x, "street row;"), 1);
        C.due("nothing came to the sea", x.count(5), 0);
        C.due("no houses", x.count(1), 0);
        C.due("an empty text", x.street(0), -12);
        C.due("its place", x.fault(1), 0);
        C.due("still no houses", x.count(0), 1);
    }

    private static void lines() {
        DebtStreet x = Checks.told("  street\nring ;\nhouse 99 spends 0 cash 1 cash 999 owes 5 owes 0 hedge 3 hedge 20;"
                + "house0spends99empty;house 007 spends 08 cash 5 empty;limit 5;limit 0;quarter 7;quarter 999; ");
        C.due("lines", x.count(0), 8);
        C.due("ring", x.count(8), 1);
        C.due("houses", x.count(1), 3);
        C.due("gone", x.count(2), 2);
        C.due("earns", x.household(0, 0), 99);
        C.due("the later cash", x.household(0, 2), 999);
        C.due("the later owes", x.house(0, 0), 0);
        C.due("the later hedge", x.house(0, 1), 20);
        C.due("spends", x.household(1, 1), 99);
        C.due("gone", x.household(1, 3), 1);
        C.due("earns by three digits", x.household(2, 0), 7);
        C.due("cash of a gone one", x.household(2, 2), 0);
        C.due("the later limit", x.count(6), 0);
        C.due("the later quarter", x.count(7), 999);
        DebtStreet y = Checks.told("street row;pays:1;grows:1;takes:1=2;pays:2;grows:3;takes:1=1;"
                + "house 9 spends 0 cash 9 owes 9;house 9 spends 0;");
        C.due("the later pays", y.pays(0), 2);
        C.due("the later grows", y.grows(0, 1), 3);
        C.due("the later takes", y.takes(0, 1), true);
        C.due("lines", y.count(0), 9);
    }

    private static void fault(String text, int kind, int place) {
        DebtStreet x = new DebtStreet();
        C.due("street: " + text, Checks.tell(x, text), -10 - kind);
        C.due("fault(0): " + text, x.fault(0), kind);
        C.due("fault(1): " + text, x.fault(1), place);
        C.due("no street: " + text, x.count(0), 0);
    }

    private static void good(String text, int lines) {
        DebtStreet x = new DebtStreet();
        C.due("street: " + text, Checks.tell(x, text), lines);
        C.due("fault(0): " + text, x.fault(0), 0);
    }

    private static void faultsOfTokens() {
        fault("Street row;", 1, 0);
        fault("street row;\t", 1, 11);
        fault("street row;\r", 1, 11);
        fault("street row;limit 1000;", 1, 17);
        fault("street row;limit 00000000000000;", 1, 17);
        fault("street row;house 1 spends 1 cash 12345 owes x;", 1, 33);
        fault("street row;9999", 1, 11);
        fault("street row;pays:1&2;", 1, 17);
        fault("street row\u00bb;", 1, 10);
        fault("street row,", 1, 10);
        fault("street row;house 1 spends 1 Cash 1;", 1, 28);
        good("street row;limit 010;", 2);
    }

    private static void faultsOfPlace() {
        fault("", 2, 0);
        fault("   ", 2, 3);
        fault("row;", 2, 0);
        fault("street", 2, 6);
        fault("street rows;", 2, 7);
        fault("street ring row;", 2, 12);
        fault("street row", 2, 10);
        fault("street row;;", 2, 11);
        fault("street row; street row;", 2, 12);
        fault("street row;limit 5", 2, 18);
        fault("street row;limit 5   ", 2, 21);
        fault("street row;limit;", 2, 16);
        fault("street row;limit:5;", 2, 16);
        fault("street row;limit 5 5;", 2, 19);
        fault("street row;quarter x;", 2, 19);
        fault("street row;spends 5;", 2, 11);
        fault("street row;house cash 1;", 2, 17);
        fault("street row;house 1 1;", 2, 19);
        fault("street row;house 1 spends;", 2, 25);
        fault("street row;house 1 spends 1 cash;", 2, 32);
        fault("street row;house 1 spends 1 empty 1;", 2, 34);
        fault("street row;house 1 spends 1 spends 1;", 2, 28);
        fault("street row;house 1 spends 1 house 1 spends 1;", 2, 28);
        fault("street row;pays:;", 2, 16);
        fault("street row;pays 1;", 2, 16);
        fault("street row;pays:1 1;", 2, 18);
        fault("street row;pays:1+;", 2, 18);
        fault("street row;pays:-1;", 2, 16);
        fault("street row;pays:1--1;", 2, 18);
        fault("street row;pays:();", 2, 17);
        fault("street row;pays:(1;", 2, 18);
        fault("street row;pays:1);", 2, 17);
        fault("street row;pays:[1];", 2, 16);
        fault("street row;pays:1=1;", 2, 17);
        fault("street row;pays:own;", 2, 16);
        fault("street row;pays:row;", 2, 16);
        fault("street row;grows:cash;", 2, 17);
        fault("street row;grows:own;", 2, 17);
        fault("street row;grows:earns;", 2, 17);
        fault("street row;takes:spends=1;", 2, 17);
        fault("street row;takes:earns=1;", 2, 17);
        fault("street row;takes:1;", 2, 18);
        fault("street row;takes:1=;", 2, 19);
        fault("street row;takes:1=1=1;", 2, 20);
        fault("street row;takes:1=1 and;", 2, 24);
        fault("street row;takes:1=1 or or;", 2, 24);
        fault("street row;takes:and;", 2, 17);
        fault("street row;takes:[1=1;", 2, 21);
        fault("street row;takes:[1]=1;", 2, 19);
        fault("street row;takes:(1=1);", 2, 19);
        fault("street row;takes:1 not=1;", 2, 19);
        fault("street row;takes:1<>1;", 2, 19);
        fault("street row;takes:not;", 2, 20);
        fault("street row;takes:]1=1;", 2, 17);
    }

    private static void faultsOfBounds() {
        fault("street row;house 100 spends 1;", 3, 17);
        fault("street row;house 1 spends 100;", 3, 26);
        fault("street row;house 1 spends 1 hedge 21;", 3, 34);
        good("street row;house 99 spends 99 cash 999 owes 999 hedge 20;limit 999;quarter 999;pays:999;", 5);
        // Where it can't stand at all that is told, not its bounds.
        fault("street row;house 1 spends 1 hedge 2 999;", 2, 36);
        fault("street row;house 100 spends 1000;", 3, 17);
    }

    private static void faultsOfMany() {
        String seven = "house 1 spends 1;house 1 spends 1;house 1 spends 1;house 1 spends 1;house 1 spends 1;"
                + "house 1 spends 1;house 1 spends 1;";
        good("street row;" + seven, 8);
        fault("street row;" + seven + "house 1 spends 1;", 4, 130);
        fault("street row;" + seven + "limit 5; house", 4, 139);
        good("street row;takes:not not not not not not 1=1;", 2);
        fault("street row;takes:not not not not not not not 1=1;", 4, 41);
        good("street row;takes:[[[[[[1=1]]]]]];", 2);
        fault("street row;takes:[[[[[[[1=1]]]]]]];", 4, 23);
        good("street row;pays:((((((1))))));", 2);
        fault("street row;pays:(((((((1)))))));", 4, 22);
        good("street row;grows:((((((1))))))+((((((1))))))*(1);", 2);
        good("street row;takes:not[not[not(1)=1]] and not [not [not (1)=(1)] or 1=1];", 2);
        fault("street row;takes:not[not[not((1))=1]];", 4, 29);
        good("street row;takes:not[not[not(1)=1] and not [((1))=1]];", 2);
        fault("street row;takes:not[not[not(1)=1] and not [(((1)))=1]];", 4, 46);
        fault("street row;takes:not[not[not[not 1=1]]];", 4, 29);
        // A seventh one where it can't stand: the least kind.
        fault("street row;takes:not not not not not not 1=1 [1=1];", 2, 45);
    }

    private static void laws() {
        StringBuilder text = new StringBuilder("street row;pays:1");
        while (text.length() < 898) {
            text.append("+1");
        }
        text.append(';');
        while (text.length() < 900) {
            text.append(' ');
        }
        DebtStreet x = new DebtStreet();
        C.due("a law as long as can be", Checks.tell(x, text.toString()), 2);
        // - takes the later one from all of the earlier ones; * goes ahead of + and -.
        C.due("10-4-3", worthOf("10-4-3"), 3);
        C.due("10-(4-3)", worthOf("10-(4-3)"), 9);
        C.due("2+3*4", worthOf("2+3*4"), 14);
        C.due("(2+3)*4", worthOf("(2+3)*4"), 20);
        C.due("2*3*4-1", worthOf("2*3*4-1"), 23);
        // Each result is kept from -1,000,000 to 1,000,000.
        C.due("kept above", worthOf("999*999*2-999*999-999-998"), 2);
        C.due("1,000,000 at most", worthOf("999*999*999-999*999-999-999"), 1);
        C.due("kept to 1,000,000", worthOf("999*999+999*999-999*999-999*2+1"), 2);
        C.due("kept from -1,000,000", worthOf("0-999*999-999*999+999*999+999*2+5"), 4);
        C.due("products of what is below 0", worthOf("(0-3)*(0-4)"), 12);
        C.due("below 0: nothing grows", worthOf("3-4"), 0);
        C.due("999 at most", worthOf("999+1"), 999);
        truths();
    }

    private static int worthOf(String sum) {
        return Checks.told("street row;house 0 spends 0;grows:" + sum + ";").grows(0, 1);
    }

    private static void truths() {
        String[] are = {"1=1", "1<2", "2>1", "not 1=2", "not not 1=1", "1=1 or 1=2", "1=2 or 1=1", "1=1 and 2=2",
            "1=1 or 1=1 and 1=2", "[1=2 or 1=1] and 1=1", "not 1=2 and 1=1", "not [1=1 and 1=2]", "not 1=2 or 1=1",
            "0-1<0", "1+1=2", "(1)=1", "1=2 and 1=2 or 1=1", "not [not 1=1 or not 2=2]", "999*999*999>999*999"};
        String[] not = {"1=2", "2<1", "1<1", "1>1", "1>2", "not 1=1", "1=1 and 1=2", "[1=1 or 1=1] and 1=2",
            "not [1=2 or 1=1]", "1=2 or 2=1", "not 1=1 or 1=2", "not not 1=2", "not not not 1=1"};
        for (String t : are) {
            C.due(t, Checks.told("street ring;house 0 spends 0;takes:" + t + ";").takes(0, 5), true);
        }
        for (String t : not) {
            C.due(t, Checks.told("street ring;house 0 spends 0;takes:" + t + ";").takes(0, 5), false);
        }
    }
}
