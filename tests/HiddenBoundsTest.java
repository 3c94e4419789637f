import java.util.NoSuchElementException;

/** The bounds that the document names for what was seen at doors: promises 39 to 41. */
public final class HiddenBoundsTest {
    private static final Checks C = new Checks();
    private static final Class<NoSuchElementException> N = NoSuchElementException.class;
    private static final Class<IllegalArgumentException> A = IllegalArgumentException.class;
    private static final Class<IllegalStateException> S = IllegalStateException.class;
    private static final String ROW = "street row;limit 999;house 0 spends 0 owes 5;house 0 spends 0 owes 30;house 0 spends 0;";

    public static void main(String[] args) {
        oneToTwelveNumbers();
        noneToTheMost();
        placesOfWhatIsSeen();
        whichThrow();
        oneToNinetyNine();
        oneToNinetyNineOfEach();
        theKth();
        allOfSeven();
        asTheTextWasTold();
        notSeen();
        eachNumberCounts();
        theQuarterBehind();
        theFirstOfLikeDoors();
        theGreatestNumber();
        C.end("HiddenBoundsTest");
    }

    private static void refused(DebtStreet x, int tray, int h, String why) {
        C.refused("seen: " + why, A, () -> x.seen(tray, h));
        C.refused("hidden: " + why, A, () -> x.hidden(tray, h, 0));
        C.refused("look: " + why, A, () -> x.look(tray, h));
    }

    /** "not 1 to 12 numbers": 0 and 13 aren't, nor are 30; of each sort of tray. */
    private static void oneToTwelveNumbers() {
        for (int many = 0; many <= 30; many++) {
            DebtStreet x = Checks.told(ROW);
            x.tray(3, many % 4, many);
            for (int i = 0; i < many; i++) {
                x.write(3, i, -1);
            }
            if (many >= 1 && many <= 12) {
                C.due("seen, numbers: " + many, x.seen(3, 0), 297);
                C.due("hidden, numbers: " + many, x.hidden(3, 0, 0), 1);
                C.due("look, numbers: " + many, x.look(3, 0) >= 0, true);
            } else {
                refused(x, 3, 0, "numbers: " + many);
            }
        }
    }

    /** "one isn't NONE to 999,999", in whichever place it stands. */
    private static void noneToTheMost() {
        long[] inside = {-1, 0, 1, 999_998, 999_999};
        long[] outside = {-2, -3, 1_000_000, 1_000_001, Integer.MIN_VALUE, Integer.MAX_VALUE, Long.MIN_VALUE, Long.MAX_VALUE, 1L << 32,
            (1L << 32) - 1, (1L << 32) + 5};
        for (int place = 0; place < 12; place += place == 0 ? 5 : 6) {
            DebtStreet x = Checks.told(ROW);
            x.tray(0, 3, 12);
            for (int i = 0; i < 12; i++) {
                x.write(0, i, -1);
            }
            for (long v : inside) {
                x.write(0, place, v);
                C.due("seen " + v + " at " + place, x.seen(0, 0), v <= 0 ? 297 : 0);
                C.due("hidden " + v + " at " + place, x.hidden(0, 0, 0), v <= 0 ? 1 : -1);
                C.due("look " + v + " at " + place, x.look(0, 0), v <= 0 ? 0 : -1);
            }
            for (long v : outside) {
                x.write(0, place, v);
                refused(x, 0, 0, v + " at " + place);
                C.refused("hidden: k too, " + v, A, () -> x.hidden(0, 0, -1));
            }
        }
    }

    /** Each of 1 to 12 places is looked at, and none behind the last one. */
    private static void placesOfWhatIsSeen() {
        for (int many = 1; many <= 12; many++) {
            for (int place = 0; place < many; place++) {
                DebtStreet x = Checks.told(ROW);
                x.tray(0, 2, many);
                x.write(0, place, -2);
                refused(x, 0, 1, "-2 at " + place + " of " + many);
            }
        }
        // What stood in a longer row is no more.
        DebtStreet x = Checks.told(ROW);
        Checks.fill(x, 0, 2, -1, -2, -2);
        Checks.fill(x, 0, 2, -1);
        C.due("one number", x.seen(0, 0), 297);
    }

    /** "NoSuchElementException, IllegalStateException, IllegalArgumentException", as told. */
    private static void whichThrow() {
        DebtStreet x = Checks.told(ROW);
        x.tray(0, 3, 0);
        Checks.fill(x, 1, 3, -2);
        Checks.fill(x, 2, 3, -1);
        for (int t : new int[] {-1, 4, Integer.MIN_VALUE, Integer.MAX_VALUE}) {
            for (int h : new int[] {0, 3, -1}) {
                C.refused("seen(" + t + ", " + h + ")", N, () -> x.seen(t, h));
                C.refused("hidden(" + t + ", " + h + ", -1)", N, () -> x.hidden(t, h, -1));
                C.refused("look(" + t + ", " + h + ")", N, () -> x.look(t, h));
            }
        }
        for (int h : new int[] {-1, 3, 7, Integer.MIN_VALUE, Integer.MAX_VALUE}) {
            for (int t = 0; t < 4; t++) {
                int tray = t;
                C.refused("seen(" + t + ", " + h + ")", N, () -> x.seen(tray, h));
                C.refused("hidden(" + t + ", " + h + ", -1)", N, () -> x.hidden(tray, h, -1));
                C.refused("look(" + t + ", " + h + ")", N, () -> x.look(tray, h));
            }
        }
        for (int h = 0; h < 3; h++) {
            int at = h;
            C.refused("missing: seen", S, () -> x.seen(3, at));
            C.refused("missing: hidden", S, () -> x.hidden(3, at, 0));
            C.refused("missing: hidden, k", S, () -> x.hidden(3, at, -1));
            C.refused("missing: look", S, () -> x.look(3, at));
            C.due("the last house", x.seen(2, h), 297);
        }
        DebtStreet none = new DebtStreet();
        C.refused("no houses, missing", N, () -> none.seen(0, 0));
        Checks.fill(none, 0, 3, -1);
        C.refused("no houses", N, () -> none.seen(0, 0));
        C.refused("no houses", N, () -> none.hidden(0, 0, 0));
        C.refused("no houses", N, () -> none.look(0, 0));
    }

    /** "d more (1 to 99)": 1 and 99 are found, 0 and 100 aren't. */
    private static void oneToNinetyNine() {
        for (int d = -2; d <= 102; d++) {
            DebtStreet x = Checks.told(ROW);
            Checks.fill(x, 0, 1, 5 + d);
            boolean at0 = d >= 1 && d <= 99;
            // As it was: the debt is hidden at house 1 or 2.
            C.due("seen " + (5 + d), x.seen(0, 1), at0 ? 1 : d == 0 ? 198 : 0);
            C.due("hidden " + (5 + d), x.hidden(0, 1, 0), at0 ? d : d == 0 ? 101 : -1);
            C.due("look " + (5 + d), x.look(0, 1), at0 || d == 0 ? 0 : -1);
            Checks.fill(x, 0, 1, 30 + d);
            C.due("seen at 2 " + (30 + d), x.seen(0, 2), at0 ? 1 : d == 0 ? 198 : 0);
            C.due("hidden at 2 " + (30 + d), x.hidden(0, 2, 0), at0 ? 100 + d : d == 0 ? 1 : -1);
        }
    }

    private static void oneToNinetyNineOfEach() {
        for (int house = 0; house < 7; house++) {
            StringBuilder text = new StringBuilder("street ring;limit 999;");
            for (int k = 0; k < 7; k++) {
                text.append("house 0 spends 0 owes ").append(100 + k).append(';');
            }
            DebtStreet x = Checks.told(text.toString());
            int door = (house + 1) % 7;
            for (int d = -1; d <= 101; d += d == 2 ? 96 : 1) {
                Checks.fill(x, 0, 2, 100 + house + d);
                C.due("seen of house " + house + ", " + d, x.seen(0, door), d == 0 ? 594 : d < 1 || d > 99 ? 0 : 1);
                C.due("hidden of house " + house + ", " + d, x.hidden(0, door, 0),
                        d == 0 ? house == 0 ? 101 : 1 : d < 1 || d > 99 ? -1 : 100 * house + d);
            }
        }
        // The most that can be told, and 99 more.
        DebtStreet most = Checks.told("street row;limit 999;house 0 spends 0 owes 999;house 0 spends 0;");
        Checks.fill(most, 0, 2, 1098);
        C.due("999 and 99", most.hidden(0, 1, 0), 99);
        Checks.fill(most, 0, 2, 1099);
        C.due("999 and 100", most.hidden(0, 1, 0), -1);
    }

    /** "The k-th of these (by HOUSES, then d): ...; NONE: not so many"; "k is below 0". */
    private static void theKth() {
        DebtStreet x = Checks.told(ROW);
        Checks.fill(x, 0, 1, 5);
        int[] ks = {0, 1, 98, 99, 197, 198, 199, 692, 693, 694, Integer.MAX_VALUE};
        int[] want = {101, 102, 199, 201, 299, -1, -1, -1, -1, -1, -1};
        for (int i = 0; i < ks.length; i++) {
            C.due("hidden(0, 1, " + ks[i] + ")", x.hidden(0, 1, ks[i]), want[i]);
        }
        for (int k : new int[] {-1, -2, Integer.MIN_VALUE}) {
            C.refused("hidden(0, 1, " + k + ")", A, () -> x.hidden(0, 1, k));
        }
        Checks.fill(x, 0, 1, 3);
        C.due("none", x.hidden(0, 1, 0), -1);
        C.refused("none: k", A, () -> x.hidden(0, 1, -1));
    }

    private static void allOfSeven() {
        for (int houses = 1; houses <= 7; houses++) {
            DebtStreet x = Checks.told("street ring;" + "house 0 spends 0 owes 9;".repeat(houses));
            Checks.fill(x, 1, 0, -1);
            C.due("all of " + houses, x.seen(1, houses - 1), 99 * houses);
            for (int h = 0; h < houses; h++) {
                C.due("the first of " + h, x.hidden(1, 0, 99 * h), 100 * h + 1);
                C.due("the last of " + h, x.hidden(1, 0, 99 * h + 98), 100 * h + 99);
            }
            C.due("no more", x.hidden(1, 0, 99 * houses), -1);
        }
    }

    /** "as the text was told", "by the text as told, no DEEDS". */
    private static void asTheTextWasTold() {
        DebtStreet x = Checks.told("street row;quarter 3;limit 8;takes:quarter=3 or own>0;house 1 spends 0 cash 2 owes 9;"
                + "house 0 spends 0 owes 4 hedge 0;house 0 spends 0 hedge 1;");
        // 9 and d less 3 go to house 1; what house 1 owes is held.
        Checks.fill(x, 0, 1, 6 + 50);
        C.due("as told", x.hidden(0, 1, 0), 50);
        x.swap(0, 1);
        x.plant(1, 20);
        x.gift(1, 0, 1);
        x.quarters(7);
        C.due("no deeds", x.hidden(0, 1, 0), 50);
        C.due("one", x.seen(0, 1), 1);
        x.image(0);
        Checks.tell(x, "street row;limit 999;house 0 spends 0 owes 16;house 0 spends 0;");
        C.due("another text", x.hidden(0, 1, 0), 40);
        Checks.tell(x, "street row;limit 999;house 0 spends 0 owes 17;house 0 spends 100;");
        C.due("a fault: the text that is told", x.hidden(0, 1, 0), 40);
        x.restore(0);
        C.due("the image's text, as told", x.hidden(0, 1, 0), 50);
        C.due("nothing is done", x.count(9), 4);
    }

    /** "NONE: not seen": any number may have come. */
    private static void notSeen() {
        DebtStreet x = Checks.told(ROW);
        Checks.fill(x, 0, 1, -1, 5);
        // To house 2 in the second quarter: what house 0 owes.
        C.due("the first not seen", x.seen(0, 2), 198);
        Checks.fill(x, 0, 1, 30, 5);
        C.due("both seen: at house 2", x.seen(0, 2), 99);
        Checks.fill(x, 0, 1, 30, -1);
        C.due("the second not seen: at 0 or 2", x.seen(0, 2), 198);
        Checks.fill(x, 0, 1, -1, -1);
        C.due("none seen: all", x.seen(0, 2), 297);
        Checks.fill(x, 0, 1, 0, 5);
        C.due("0 is seen", x.seen(0, 2), 0);
    }

    /** The first number is the first quarter's, the twelfth the twelfth's. */
    private static void eachNumberCounts() {
        for (int many = 1; many <= 12; many++) {
            for (int k = 1; k <= many + 1; k++) {
                DebtStreet x = Checks.told("street row;limit 999;takes:quarter=" + (k - 1) + ";house 0 spends 0 owes 8;house 0 spends 0;");
                x.tray(0, 1, many);
                if (k <= many) {
                    x.write(0, k - 1, 8 + 30);
                }
                String name = "goes in " + k + ", seen " + many;
                C.due(name, x.seen(0, 1), k <= many ? 1 : 198);
                C.due(name, x.hidden(0, 1, 0), k <= many ? 30 : 1);
                if (k <= many) {
                    x.write(0, k - 1, -1);
                    C.due(name + ", not that one", x.seen(0, 1), 198);
                    x.write(0, k - 1, 0);
                    C.due(name + ", but as 0", x.seen(0, 1), 0);
                }
            }
        }
    }

    /** "the next QUARTER behind all these": the one that comes then, not the one ahead of it, not a later one. */
    private static void theQuarterBehind() {
        for (int many = 1; many <= 12; many++) {
            for (int k = many; k <= many + 2; k++) {
                // In the k-th quarter 8 and d go to house 2: if that is the next one, at its door 99 are told apart.
                DebtStreet x = Checks.told("street row;limit 999;takes:house=2 and quarter=" + (k - 1)
                        + ";house 0 spends 0;house 0 spends 0 owes 8;house 0 spends 0 hedge 0;");
                x.tray(0, 1, many);
                for (int i = 0; i < many; i++) {
                    x.write(0, i, -1);
                }
                C.due("look behind " + many + ", goes in " + k, x.look(0, 0), k == many + 1 ? 2 : 0);
            }
        }
    }

    /** "where the greatest number of these twos that have one and the same GO there is least, the first; NONE". */
    private static void theFirstOfLikeDoors() {
        // Behind the first quarter nothing but what house 0, 1 and 2 owed goes round: each door tells 99 apart.
        DebtStreet ring = Checks.told("street ring;limit 999;house 0 spends 0;house 0 spends 0;house 0 spends 0;");
        Checks.fill(ring, 0, 1, -1);
        C.due("all doors alike", ring.look(0, 0), 0);
        Checks.fill(ring, 0, 1, 0);
        // Nothing came to house 0: hidden at 0 (then at house 1, then to house 2) or at 1 (to house 0).
        C.due("198 alike at 1, 99 at 0 and at 2: the first", ring.look(0, 0), 0);
        C.due("seen at 1", ring.seen(0, 1), 198);
        C.due("hidden at 1 or 2: to house 0, to house 1", ring.look(0, 1), 0);
        C.due("hidden at 0 or 2", ring.look(0, 2), 1);
        Checks.fill(ring, 0, 1, 7);
        C.due("one alone: the first door", ring.look(0, 2), 0);
        Checks.fill(ring, 0, 1, 100);
        C.due("there are none", ring.look(0, 2), -1);
        // Two that are alike at the first doors are told apart at the last one.
        DebtStreet row = Checks.told("street row;limit 999;takes:house=1 or quarter>0;house 0 spends 0;house 0 spends 0;house 0 spends 0;"
                + "house 0 spends 0;house 0 spends 0 hedge 1;");
        Checks.fill(row, 0, 1, 0);
        C.due("twos", row.seen(0, 1), 396);
        // hidden at 1: to house 2; at 2: to 3; at 3: to 4; at 4: to the sea. 297 of 396 alike at 2, 3 and 4: the first.
        C.due("the first of three like ones", row.look(0, 1), 2);
    }

    /** The greatest number of one and the same GO, be that the least of all, one between, the greatest. */
    private static void theGreatestNumber() {
        String three = "house 0 spends 0 owes 5;house 0 spends 0;house 0 spends 0;";
        String[] laws = {"debt<56", "debt>55", "debt<56 and debt>25", "debt<26 or debt>55", "debt=5 or debt>99", "debt<6 or debt>103",
            "debt<103", "debt<104", "debt<105", "debt=0 or debt>5", "house=1", "house=2 and debt<50 or house=1 and debt>49", "own<9"};
        for (String law : laws) {
            for (int sort = 0; sort < 2; sort++) {
                DebtStreet x = Checks.told((sort == 0 ? "street row" : "street ring") + ";limit 999;takes:quarter=0 or " + law + ";" + three);
                Checks.fill(x, 0, 1, -1);
                int best = -1;
                int least = 1000;
                for (int door = 0; door < 3; door++) {
                    int many = mostAlike(sort == 0 ? "street row" : "street ring", law, door);
                    if (many < least) {
                        least = many;
                        best = door;
                    }
                }
                C.due("look, " + law + ", " + sort, x.look(0, 0), best);
            }
        }
        // A door with its 198 between, one with its 198 as the least: the first of these.
        DebtStreet x = Checks.told("street ring;limit 999;takes:quarter=0 or house=0 and debt<60 or house=1;"
                + "house 0 spends 0 owes 3;house 0 spends 0 owes 2;house 0 spends 0 owes 1;");
        Checks.fill(x, 0, 1, -1);
        // In the second quarter house 2 has what house 1 owed, 2 and more or 2, and house 0 what house 2 owed.
        C.due("to house 0 come 2 by 198, more by 57, 0 by 42; to house 1 comes 1 by 198, more by 99", x.look(0, 0), 0);
    }

    /** How many twos have the same go to a door in the second quarter, at most: each told, and lived. */
    private static int mostAlike(String street, String law, int door) {
        java.util.Map<Long, Integer> all = new java.util.HashMap<>();
        for (int two = 1; two < 300; two++) {
            if (two % 100 != 0) {
                int[] owes = {5, 0, 0};
                owes[two / 100] += two % 100;
                DebtStreet y = Checks.told(street + ";limit 999;takes:quarter=0 or " + law + ";house 0 spends 0 owes " + owes[0]
                        + ";house 0 spends 0 owes " + owes[1] + ";house 0 spends 0 owes " + owes[2] + ";");
                all.merge(y.burden(door, 2) - y.burden(door, 1), 1, Integer::sum);
            }
        }
        return java.util.Collections.max(all.values());
    }
}
