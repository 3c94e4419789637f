import java.util.ArrayList;
import java.util.List;
import java.util.NoSuchElementException;

/** "Of several throws of a call that one comes that is told first. A call that throws changes nothing." Nor does one that can't be. */
public final class RefusedTest {
    private static final Checks C = new Checks();
    private static final Class<NoSuchElementException> N = NoSuchElementException.class;
    private static final Class<IllegalArgumentException> A = IllegalArgumentException.class;
    private static final Class<IllegalStateException> S = IllegalStateException.class;
    private static final Class<IndexOutOfBoundsException> I = IndexOutOfBoundsException.class;

    private interface Call {
        long of(DebtStreet x);
    }

    public static void main(String[] args) {
        ofTheStreet();
        ofDeeds();
        ofWhatIsToCome();
        ofSearches();
        ofTrays();
        thatCannotBe();
        askedOnly();
        C.end("RefusedTest");
    }

    /** Houses 0 and 1 (one gone), a deed, images 0 and 1, tray 0 of deeds, 1 of what was seen, 2 empty, a tape, a fault. */
    private static DebtStreet made() {
        DebtStreet x = Checks.told("street ring;limit 30;quarter 5;grows:quarter;pays:cash-1;takes:own<20;"
                + "house 3 spends 2 cash 9 owes 7 hedge 2;house 1 spends 4 owes 5 empty;");
        x.image(1);
        x.plant(1, 3);
        x.quarters(2);
        x.image(0);
        x.swap(0, 1);
        Checks.fill(x, 0, 1, -1, 1, 100, -1);
        Checks.fill(x, 1, 2, -1, 7);
        Checks.fill(x, 2, 0);
        Checks.tell(x, "street row;limit?");
        Checks.feed(x, "street row;limit 8; house 4 spends 0 owes 6;");
        return x;
    }

    /** All that can be asked of it, at last with all that is kept. */
    private static List<Long> all(DebtStreet x) {
        List<Long> all = new ArrayList<>();
        seen(x, all);
        for (int what = 0; what < 4; what++) {
            all.add((long) x.judge(0, what));
            all.add((long) x.judge(2, what));
        }
        all.add((long) x.seen(1, 0));
        all.add((long) x.hidden(1, 0, 0));
        all.add((long) x.undo(1));
        seen(x, all);
        all.add((long) x.perform(0));
        seen(x, all);
        all.add((long) x.undo(3));
        for (int i = 0; i < 2; i++) {
            x.restore(i);
            seen(x, all);
            for (int left = x.count(9); left > 0; left--) {
                all.add((long) x.undo(1));
                seen(x, all);
            }
        }
        all.add((long) x.street(44));
        seen(x, all);
        return all;
    }

    private static void seen(DebtStreet x, List<Long> all) {
        for (int what = 0; what < 11; what++) {
            all.add((long) x.count(what));
        }
        for (int h = 0; h < x.count(1); h++) {
            for (int what = 0; what < 7; what++) {
                all.add((long) (what < 3 ? x.house(h, what) : x.household(h, what - 3)));
            }
            all.add((long) x.grows(h, 1));
            all.add(x.takes(h, 1) ? 1L : 0L);
        }
        all.add((long) x.fault(0));
        all.add((long) x.fault(1));
    }

    private static void unchanged(String name, DebtStreet x) {
        C.due(name + " changed nothing", all(x).equals(all(made())), true);
        // What isn't there stays not there.
        C.refused(name + ": tray 3", S, () -> x.perform(3));
        C.refusedDeed(name + ": image 2", S, () -> x.restore(2));
    }

    private static void refused(String name, Class<? extends RuntimeException> want, Call call) {
        DebtStreet x = made();
        C.refused(name, want, () -> call.of(x));
        unchanged(name, x);
    }

    private static void ofTheStreet() {
        refused("street: below 0", A, x -> x.street(-1));
        refused("street: above what it has", A, x -> x.street(61));
        refused("house: no such", N, x -> x.house(2, 0));
        refused("house: what", A, x -> x.house(0, 3));
        refused("house: both", N, x -> x.house(2, 3));
        refused("household: no such", N, x -> x.household(-1, 0));
        refused("household: what", A, x -> x.household(0, 4));
        refused("household: both", N, x -> x.household(-1, 4));
        refused("pays: no such", N, x -> x.pays(2));
        refused("pays: gone", S, x -> x.pays(0));
        refused("grows: no such", N, x -> x.grows(2, 0));
        refused("grows: d", A, x -> x.grows(0, 1_000_000));
        refused("grows: both", N, x -> x.grows(2, -1));
        refused("takes: no such", N, x -> x.takes(2, 0) ? 1 : 0);
        refused("takes: d", A, x -> x.takes(0, -1) ? 1 : 0);
        refused("takes: both", N, x -> x.takes(2, 1_000_000) ? 1 : 0);
    }

    private static void ofDeeds() {
        refused("plant: no such", N, x -> x.plant(2, 1));
        refused("plant: n", A, x -> x.plant(1, 21));
        refused("plant: both", N, x -> x.plant(2, 21));
        refused("quarters: 0", A, x -> x.quarters(0));
        refused("quarters: 100", A, x -> x.quarters(100));
        refused("undo: 0", A, x -> x.undo(0));
        refused("undo: 4 of 3", A, x -> x.undo(4));
        refused("undo: 11", A, x -> x.undo(11));
        refused("judge: no such", N, x -> x.judge(4, 0));
        refused("judge: missing", S, x -> x.judge(3, 0));
        refused("judge: what", A, x -> x.judge(0, 4));
        refused("judge: no such, what", N, x -> x.judge(4, 4));
        refused("judge: missing, what", S, x -> x.judge(3, 4));
        refused("perform: no such", N, x -> x.perform(-1));
        refused("perform: missing", S, x -> x.perform(3));
        refused("year: 0", A, x -> x.year(3, 0));
        refused("year: 31", A, x -> x.year(3, 31));
    }

    private static void ofWhatIsToCome() {
        refused("debtIn: no such", N, x -> x.debtIn(2, 1));
        refused("debtIn: n", A, x -> x.debtIn(0, 201));
        refused("debtIn: both", N, x -> x.debtIn(2, 201));
        refused("cashIn: no such", N, x -> x.cashIn(2, 1));
        refused("cashIn: n", A, x -> x.cashIn(0, -1));
        refused("cashIn: both", N, x -> x.cashIn(2, -1));
        refused("ruinIn: no such", N, x -> x.ruinIn(2));
        refused("lost: n", A, x -> x.lost(21));
        refused("seaIn: n", A, x -> x.seaIn(201));
        refused("burden: no such", N, x -> x.burden(2, 1));
        refused("burden: n", A, x -> x.burden(0, 0));
        refused("burden: both", N, x -> x.burden(2, 0));
        refused("heaviest: n", A, x -> x.heaviest(0));
        refused("paid: n", A, x -> x.paid(21));
    }

    private static void ofSearches() {
        refused("order: n", A, x -> x.order(21, 0));
        refused("order: what", A, x -> x.order(1, 9));
        refused("order: both", A, x -> x.order(0, 17));
        refused("orders: n", A, x -> x.orders(0));
        refused("bestSwap: n", A, x -> x.bestSwap(0));
        refused("wouldSwap: n", A, x -> x.wouldSwap(21));
        refused("bestHouse: no such", N, x -> x.bestHouse(2, 1));
        refused("bestHouse: n", A, x -> x.bestHouse(0, 21));
        refused("bestHouse: both", N, x -> x.bestHouse(2, 21));
        // House 0's household is gone.
        refused("hedges: no such", N, x -> x.hedges(2, 1, 0));
        refused("hedges: n", A, x -> x.hedges(1, 21, 0));
        refused("hedges: what", A, x -> x.hedges(1, 1, 2));
        refused("hedges: gone", S, x -> x.hedges(0, 1, 0));
        refused("hedges: n, gone", A, x -> x.hedges(0, 0, 0));
        refused("hedges: what, gone", A, x -> x.hedges(0, 1, -1));
        refused("hedges: no such, n, what", N, x -> x.hedges(2, 0, 2));
        refused("bestHedge: n", A, x -> x.bestHedge(21));
        refused("saves: no such", N, x -> x.saves(2, 1));
        refused("saves: n", A, x -> x.saves(1, 0));
        refused("saves: gone", S, x -> x.saves(0, 1));
        refused("saves: n, gone", A, x -> x.saves(0, 21));
        refused("saves: no such, n", N, x -> x.saves(2, 21));
        refused("leastLimit: n", A, x -> x.leastLimit(0));
        refused("worth: no such", N, x -> x.worth(2, 1));
        refused("worth: n", A, x -> x.worth(1, 21));
        refused("worth: gone", S, x -> x.worth(0, 1));
        refused("worth: n, gone", A, x -> x.worth(0, 0));
        refused("worth: no such, n", N, x -> x.worth(2, 0));
        refused("pillar: n", A, x -> x.pillar(21));
    }

    private static void ofTrays() {
        refused("seen: no such", N, x -> x.seen(4, 0));
        refused("seen: no house", N, x -> x.seen(1, 2));
        refused("seen: missing", S, x -> x.seen(3, 0));
        refused("seen: no numbers", A, x -> x.seen(2, 0));
        refused("seen: no house, missing", N, x -> x.seen(3, 2));
        refused("seen: no house, no numbers", N, x -> x.seen(2, 2));
        refused("hidden: no such", N, x -> x.hidden(4, 0, 0));
        refused("hidden: missing", S, x -> x.hidden(3, 0, 0));
        refused("hidden: k", A, x -> x.hidden(1, 0, -1));
        refused("hidden: missing, k", S, x -> x.hidden(3, 0, -1));
        refused("hidden: no house, k", N, x -> x.hidden(1, 2, -1));
        refused("hidden: no numbers, k", A, x -> x.hidden(2, 0, -1));
        refused("look: no such", N, x -> x.look(-1, 0));
        refused("look: missing", S, x -> x.look(3, 0));
        refused("look: no numbers", A, x -> x.look(2, 0));
        refused("tray: no such", N, x -> lay(x, 4, 0, 1));
        refused("tray: sort", A, x -> lay(x, 0, 4, 1));
        refused("tray: many", A, x -> lay(x, 0, 0, 31));
        refused("tray: sort, many", A, x -> lay(x, 3, -1, -1));
        refused("tray: all", N, x -> lay(x, 4, 4, 31));
        refused("write: no such", N, x -> x.write(4, 0, 1));
        refused("write: missing", S, x -> x.write(3, 0, 1));
        refused("write: place", I, x -> x.write(0, 4, 1));
        refused("write: place", I, x -> x.write(2, 0, 1));
        refused("write: missing, place", S, x -> x.write(3, 30, 1));
        refused("write: no such, place", N, x -> x.write(4, 30, 1));
        refused("copy: no such", N, x -> x.copy(4, 0));
        refused("copy: no house", N, x -> x.copy(0, 2));
        refused("copy: missing", S, x -> x.copy(3, 0));
        refused("copy: no house, missing", N, x -> x.copy(3, 2));
        refused("image: no such", N, x -> image(x, 3));
        refused("restore: no such", N, x -> restore(x, 3));
        refused("restore: none", S, x -> restore(x, 2));
    }

    private static long lay(DebtStreet x, int tray, int sort, int many) {
        x.tray(tray, sort, many);
        return 0;
    }

    private static long image(DebtStreet x, int i) {
        x.image(i);
        return 0;
    }

    private static long restore(DebtStreet x, int i) {
        x.restore(i);
        return 0;
    }

    /** "below 0: less why it can't be (nothing happens)"; a deed told or drawn that can't be; an empty tray. */
    private static void thatCannotBe() {
        none("swap: one", -1, x -> x.swap(1, 1));
        none("swap: no such", -1, x -> x.swap(0, 2));
        none("gift: number", -1, x -> x.gift(1, 0, 1000));
        none("gift: gone", -2, x -> x.gift(1, 0, 1));
        none("payOff: number", -1, x -> x.payOff(1, 0));
        none("payOff: no such", -1, x -> x.payOff(2, 1));
        none("payOff: gone", -2, x -> x.payOff(0, 1));
        none("perform: an empty tray", 0, x -> x.perform(2));
        none("fault", -1, x -> x.fault(2));
        none("count", -1, x -> x.count(11));
        DebtStreet full = made();
        while (full.count(10) < 900) {
            full.feed(0x20202020, 0x20202020, 0x20202020, 0x20202020, 0x20202020);
        }
        C.due("feed: too much", full.feed(-1, -1, -1, -1, -1), -1);
        C.due("the tape", full.count(10), 900);
        C.due("its text", full.street(900), 3);
    }

    private static void none(String name, long want, Call call) {
        DebtStreet x = made();
        C.due(name, call.of(x), want);
        unchanged(name, x);
    }

    /** Whatever is only asked changes nothing either. */
    private static void askedOnly() {
        for (int n : new int[] {1, 20}) {
            DebtStreet x = made();
            for (int h = 0; h < 2; h++) {
                x.debtIn(h, 200);
                x.cashIn(h, 200);
                x.ruinIn(h);
                x.burden(h, n);
                x.bestHouse(h, n);
                x.seen(1, h);
                x.hidden(1, h, 3);
                x.look(1, h);
                x.grows(h, 7);
                x.takes(h, 7);
            }
            x.pays(1);
            x.clear();
            x.seaIn(200);
            x.lost(n);
            x.heaviest(n);
            x.paid(n);
            x.order(n, 0);
            x.order(n, 10);
            x.orders(n);
            x.bestSwap(n);
            x.wouldSwap(n);
            x.hedges(1, n, 0);
            x.hedges(1, n, 1);
            x.bestHedge(n);
            x.saves(1, n);
            x.leastLimit(n);
            x.worth(1, n);
            x.pillar(n);
            x.judge(0, 2);
            unchanged("asked for " + n, x);
        }
    }
}
