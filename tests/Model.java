import java.util.ArrayDeque;
import java.util.ArrayList;
import java.util.HashMap;
import java.util.List;
import java.util.Map;
import java.util.NoSuchElementException;
import java.util.function.IntPredicate;
import java.util.regex.Matcher;
import java.util.regex.Pattern;

/**
 * The document once more, written in another way: slow, with copies of all for every question, laws as trees, every
 * least and best by trying all. ModelTest asks it and DebtStreet the same.
 */
final class Model {
    static final int MAX = 999_999;

    interface Sum {
        int of(Map<String, Integer> words);
    }

    interface Truth {
        boolean of(Map<String, Integer> words);
    }

    static final class Household implements Cloneable {
        int earns;
        int spends;
        int cash;
        boolean gone;

        Household copied() {
            Household c = new Household();
            c.earns = earns;
            c.spends = spends;
            c.cash = cash;
            c.gone = gone;
            return c;
        }
    }

    static final class State {
        boolean ring;
        int lines;
        int limit = 100;
        int quarter;
        int sea;
        Sum pays;
        Sum grows;
        Truth takes;
        State told;
        List<Household> homes = new ArrayList<>();
        List<Integer> debts = new ArrayList<>();
        List<Integer> hedges = new ArrayList<>();
        // Of the latest quarter.
        int[] goes = new int[0];
        long paid;
        int ruined;

        State copied() {
            State c = new State();
            c.ring = ring;
            c.lines = lines;
            c.limit = limit;
            c.quarter = quarter;
            c.sea = sea;
            c.pays = pays;
            c.grows = grows;
            c.takes = takes;
            c.told = told;
            for (Household h : homes) {
                c.homes.add(h.copied());
            }
            c.debts.addAll(debts);
            c.hedges.addAll(hedges);
            return c;
        }

        int next(int h) {
            return h < homes.size() - 1 ? h + 1 : ring ? 0 : -1;
        }

        int wouldPay(int h, int cash, int debt) {
            int most = Math.min(cash, debt);
            if (pays == null) {
                return most;
            }
            Map<String, Integer> words = words(h, debt);
            words.put("cash", cash);
            words.put("earns", homes.get(h).earns);
            words.put("spends", homes.get(h).spends);
            return Math.max(0, Math.min(most, pays.of(words)));
        }

        int wouldGrow(int h, int debt) {
            return debt == 0 || grows == null ? 0 : Math.max(0, Math.min(999, grows.of(words(h, debt))));
        }

        boolean wouldTake(int h, int debt) {
            int next = next(h);
            if (next < 0 || takes == null) {
                return true;
            }
            Map<String, Integer> words = words(next, debt);
            words.put("cash", homes.get(next).gone ? 0 : homes.get(next).cash);
            words.put("own", debts.get(next));
            return takes.of(words);
        }

        Map<String, Integer> words(int h, int debt) {
            Map<String, Integer> words = new HashMap<>();
            words.put("debt", debt);
            words.put("house", h);
            words.put("quarter", quarter % 1000);
            return words;
        }

        void quarter() {
            int many = homes.size();
            paid = 0;
            ruined = 0;
            goes = new int[many];
            for (int h = 0; h < many; h++) {
                Household who = homes.get(h);
                if (who.gone) {
                    continue;
                }
                who.cash += who.earns - who.spends;
                if (who.cash < 0) {
                    debts.set(h, Math.min(MAX, debts.get(h) - who.cash));
                    who.cash = 0;
                }
                who.cash = Math.min(MAX, who.cash);
                int pay = wouldPay(h, who.cash, debts.get(h));
                who.cash -= pay;
                debts.set(h, debts.get(h) - pay);
                paid += pay;
            }
            for (int h = 0; h < many; h++) {
                debts.set(h, Math.min(MAX, debts.get(h) + wouldGrow(h, debts.get(h))));
            }
            boolean[] leaves = new boolean[many];
            for (int h = 0; h < many; h++) {
                int to = next(h);
                leaves[h] = debts.get(h) > 0 && (to < 0 || hedges.get(to) == 0 && wouldTake(h, debts.get(h)));
            }
            int[] then = new int[many];
            for (int h = 0; h < many; h++) {
                int to = leaves[h] ? next(h) : h;
                if (to < 0) {
                    sea = Math.min(MAX, sea + debts.get(h));
                } else {
                    then[to] += debts.get(h);
                    goes[to] += leaves[h] ? debts.get(h) : 0;
                }
            }
            for (int h = 0; h < many; h++) {
                debts.set(h, Math.min(MAX, then[h]));
                if (!homes.get(h).gone && debts.get(h) > limit) {
                    homes.get(h).gone = true;
                    homes.get(h).cash = 0;
                    ruined++;
                }
                hedges.set(h, hedges.get(h) == 0 ? 0 : hedges.get(h) - 1);
            }
            quarter++;
        }

        int lost(int n) {
            int lost = 0;
            for (int i = 0; i < n; i++) {
                quarter();
                lost += ruined;
            }
            return lost;
        }

        int alive() {
            int all = 0;
            for (Household h : homes) {
                all += h.gone ? 0 : 1;
            }
            return all;
        }

        int debt() {
            int all = 0;
            for (int d : debts) {
                all += d;
            }
            return all;
        }

        long[] burdens(int n) {
            long[] all = new long[homes.size()];
            for (int i = 0; i < n; i++) {
                quarter();
                for (int h = 0; h < all.length; h++) {
                    all[h] += goes[h];
                }
            }
            return all;
        }

        State swapped(int g, int h) {
            State c = copied();
            Household was = c.homes.get(g);
            c.homes.set(g, c.homes.get(h));
            c.homes.set(h, was);
            return c;
        }

        boolean has(int h) {
            return h >= 0 && h < homes.size();
        }

        /** Does a told deed, or tells (above 0) why it can't be. */
        int deed(long v) {
            if (v == -1) {
                quarter();
                return 0;
            }
            if (v >= 0 && v <= 99) {
                return swap((int) v / 10, (int) v % 10);
            }
            if (v >= 100 && v <= 109) {
                if (!has((int) v - 100)) {
                    return 1;
                }
                hedges.set((int) v - 100, 4);
                return 0;
            }
            if (v >= 200 && v <= 209) {
                return payOff((int) v - 200, Integer.MAX_VALUE);
            }
            if (v >= 300 && v <= 399) {
                return gift(((int) v - 300) / 10, (int) v % 10, 10);
            }
            return 1;
        }

        int swap(int g, int h) {
            if (!has(g) || !has(h) || g == h) {
                return 1;
            }
            homes = swapped(g, h).homes;
            return 0;
        }

        int gift(int g, int h, int n) {
            if (!has(g) || !has(h) || g == h) {
                return 1;
            }
            Household from = homes.get(g);
            Household to = homes.get(h);
            if (from.gone || to.gone) {
                return 2;
            }
            if (from.cash < n) {
                return 3;
            }
            from.cash -= n;
            to.cash = Math.min(MAX, to.cash + n);
            return 0;
        }

        int payOff(int h, int n) {
            if (!has(h)) {
                return 1;
            }
            if (homes.get(h).gone) {
                return 2;
            }
            int most = Math.min(n, Math.min(homes.get(h).cash, debts.get(h)));
            if (most == 0) {
                return 3;
            }
            homes.get(h).cash -= most;
            debts.set(h, debts.get(h) - most);
            return 0;
        }
    }

    static final class Fault extends RuntimeException {
        private static final long serialVersionUID = 1;
        final int kind;
        final int place;

        Fault(int kind, int place) {
            this.kind = kind;
            this.place = place;
        }
    }

    /** Reads a text; a fault is thrown at once. */
    static final class Reader {
        private static final Pattern TOKEN = Pattern.compile("[ \n]*([a-z]+|[0-9]+|[-;:+*()\\[\\]=<>])");
        final String text;
        int at;
        String token;
        int place;
        boolean bad;
        List<String> allowed;

        Reader(String text) {
            this.text = text;
            go();
        }

        void go() {
            Matcher m = TOKEN.matcher(text).region(at, text.length());
            bad = false;
            if (m.lookingAt()) {
                token = m.group(1);
                place = m.start(1);
                at = m.end();
                bad = token.matches("[0-9]{4,}");
                return;
            }
            place = at;
            while (place < text.length() && (text.charAt(place) == ' ' || text.charAt(place) == '\n')) {
                place++;
            }
            token = "";
            bad = place < text.length();
        }

        Fault fault(int kind) {
            return new Fault(bad ? 1 : kind, place);
        }

        boolean is(String sign) {
            return !bad && token.equals(sign);
        }

        boolean skip(String sign) {
            if (!is(sign)) {
                return false;
            }
            go();
            return true;
        }

        void must(String sign) {
            if (!skip(sign)) {
                throw fault(2);
            }
        }

        int number(int most) {
            if (bad || token.isEmpty() || !Character.isDigit(token.charAt(0))) {
                throw fault(2);
            }
            int n = Integer.parseInt(token);
            if (n > most) {
                throw fault(3);
            }
            go();
            return n;
        }

        State all() {
            State s = new State();
            must("street");
            s.ring = skip("ring");
            if (!s.ring) {
                must("row");
            }
            must(";");
            s.lines = 1;
            while (bad || !token.isEmpty()) {
                line(s);
                must(";");
                s.lines++;
            }
            s.told = s.copied();
            return s;
        }

        void line(State s) {
            if (is("house")) {
                house(s);
            } else if (skip("pays")) {
                must(":");
                allowed = List.of("debt", "house", "quarter", "cash", "earns", "spends");
                s.pays = sum(0);
            } else if (skip("grows")) {
                must(":");
                allowed = List.of("debt", "house", "quarter");
                s.grows = sum(0);
            } else if (skip("takes")) {
                must(":");
                allowed = List.of("debt", "house", "quarter", "cash", "own");
                s.takes = truth(0);
            } else if (skip("limit")) {
                s.limit = number(999);
            } else if (skip("quarter")) {
                s.quarter = number(999);
            } else {
                throw fault(2);
            }
        }

        void house(State s) {
            if (s.homes.size() == 7) {
                throw fault(4);
            }
            go();
            Household h = new Household();
            int debt = 0;
            int hedge = 0;
            h.earns = number(99);
            must("spends");
            h.spends = number(99);
            while (!is(";")) {
                if (skip("cash")) {
                    h.cash = number(999);
                } else if (skip("owes")) {
                    debt = number(999);
                } else if (skip("hedge")) {
                    hedge = number(20);
                } else {
                    must("empty");
                    h.gone = true;
                }
            }
            h.cash = h.gone ? 0 : h.cash;
            s.homes.add(h);
            s.debts.add(debt);
            s.hedges.add(hedge);
        }

        void deeper(int depth) {
            if (depth == 6) {
                throw fault(4);
            }
            go();
        }

        Truth truth(int depth) {
            Truth a = both(depth);
            while (skip("or")) {
                Truth left = a;
                Truth right = both(depth);
                a = w -> left.of(w) || right.of(w);
            }
            return a;
        }

        Truth both(int depth) {
            Truth a = unit(depth);
            while (skip("and")) {
                Truth left = a;
                Truth right = unit(depth);
                a = w -> left.of(w) && right.of(w);
            }
            return a;
        }

        Truth unit(int depth) {
            if (is("not")) {
                deeper(depth);
                Truth a = unit(depth + 1);
                return w -> !a.of(w);
            }
            if (is("[")) {
                deeper(depth);
                Truth a = truth(depth + 1);
                must("]");
                return a;
            }
            Sum left = sum(depth);
            String sign = token;
            if (!is("=") && !is("<") && !is(">")) {
                throw fault(2);
            }
            go();
            Sum right = sum(depth);
            return w -> {
                int order = Integer.compare(left.of(w), right.of(w));
                return sign.equals("=") ? order == 0 : sign.equals("<") ? order < 0 : order > 0;
            };
        }

        static int kept(long n) {
            return (int) Math.max(-1_000_000, Math.min(1_000_000, n));
        }

        Sum sum(int depth) {
            Sum a = term(depth);
            while (is("+") || is("-")) {
                int sign = is("+") ? 1 : -1;
                go();
                Sum left = a;
                Sum right = term(depth);
                a = w -> kept(left.of(w) + (long) sign * right.of(w));
            }
            return a;
        }

        Sum term(int depth) {
            Sum a = atom(depth);
            while (skip("*")) {
                Sum left = a;
                Sum right = atom(depth);
                a = w -> kept((long) left.of(w) * right.of(w));
            }
            return a;
        }

        Sum atom(int depth) {
            if (is("(")) {
                deeper(depth);
                Sum a = sum(depth + 1);
                must(")");
                return a;
            }
            if (!bad && allowed.contains(token)) {
                String word = token;
                go();
                return w -> w.get(word);
            }
            int n = number(999);
            return w -> n;
        }
    }

    private String tape = "";
    private int faultKind = 0;
    private int faultPlace = -1;
    private State now = new State();
    private ArrayDeque<State> deeds = new ArrayDeque<>();
    private final State[] images = new State[3];
    private final List<ArrayDeque<State>> imageDeeds = new ArrayList<>(List.of(deeds, deeds, deeds));
    private final long[][] trays = new long[4][];
    private final int[] sorts = new int[4];

    Model() {
        now.told = now.copied();
    }

    private void house(int h) {
        if (!now.has(h)) {
            throw new NoSuchElementException();
        }
    }

    private void good(boolean good) {
        if (!good) {
            throw new IllegalArgumentException();
        }
    }

    private void near(int n) {
        good(n >= 1 && n <= 20);
    }

    private void alive(int h) {
        if (now.homes.get(h).gone) {
            throw new IllegalStateException();
        }
    }

    private void remember(State before) {
        deeds.addLast(before);
        if (deeds.size() > 10) {
            deeds.removeFirst();
        }
    }

    public int feed(int a, int b, int c, int d, int e) {
        if (tape.length() > 880) {
            return -1;
        }
        for (int i : new int[] {a, b, c, d, e}) {
            for (int shift = 24; shift >= 0; shift -= 8) {
                tape += (char) (i >>> shift & 255);
            }
        }
        return tape.length();
    }

    public int street(int n) {
        good(n >= 0 && n <= tape.length());
        String text = tape.substring(0, n);
        tape = "";
        try {
            now = new Reader(text).all();
        } catch (Fault f) {
            faultKind = f.kind;
            faultPlace = f.place;
            return -10 - f.kind;
        }
        faultKind = 0;
        faultPlace = -1;
        deeds.clear();
        return now.lines;
    }

    public int fault(int what) {
        return what == 0 ? faultKind : what == 1 ? faultPlace : -1;
    }

    public int house(int h, int what) {
        house(h);
        good(what >= 0 && what <= 2);
        return what == 0 ? now.debts.get(h) : what == 1 ? now.hedges.get(h) : now.next(h);
    }

    public int household(int h, int what) {
        house(h);
        good(what >= 0 && what <= 3);
        Household who = now.homes.get(h);
        return what == 0 ? who.earns : what == 1 ? who.spends : what == 2 ? who.cash : who.gone ? 1 : 0;
    }

    public int pays(int h) {
        house(h);
        alive(h);
        return now.wouldPay(h, now.homes.get(h).cash, now.debts.get(h));
    }

    public int grows(int h, int d) {
        house(h);
        good(d >= 0 && d <= MAX);
        return now.wouldGrow(h, d);
    }

    public boolean takes(int h, int d) {
        house(h);
        good(d >= 0 && d <= MAX);
        return now.wouldTake(h, d);
    }

    public int swap(int g, int h) {
        State before = now.copied();
        int why = now.swap(g, h);
        if (why > 0) {
            return -why;
        }
        remember(before);
        return now.debts.get(g) + now.debts.get(h);
    }

    public int gift(int g, int h, int n) {
        if (n < 1 || n > 999) {
            return -1;
        }
        State before = now.copied();
        int why = now.gift(g, h, n);
        if (why > 0) {
            return -why;
        }
        remember(before);
        return now.homes.get(g).cash;
    }

    public int plant(int h, int n) {
        house(h);
        good(n >= 0 && n <= 20);
        remember(now.copied());
        return now.hedges.set(h, n);
    }

    public int payOff(int h, int n) {
        if (n < 1 || n > 999) {
            return -1;
        }
        State before = now.copied();
        int why = now.payOff(h, n);
        if (why > 0) {
            return -why;
        }
        remember(before);
        return before.debts.get(h) - now.debts.get(h);
    }

    public int quarters(int n) {
        good(n >= 1 && n <= 99);
        remember(now.copied());
        int before = now.alive();
        now.lost(n);
        return before - now.alive();
    }

    public int undo(int n) {
        good(n >= 1 && n <= 10 && n <= deeds.size());
        for (int i = 0; i < n; i++) {
            now = deeds.removeLast().copied();
        }
        return deeds.size();
    }

    private long[] tray(int tray) {
        if (tray < 0 || tray > 3) {
            throw new NoSuchElementException();
        }
        if (trays[tray] == null) {
            throw new IllegalStateException();
        }
        return trays[tray];
    }

    public int judge(int tray, int what) {
        long[] row = tray(tray);
        good(what >= 0 && what <= 3);
        State then = now.copied();
        for (int i = 0; i < row.length; i++) {
            int why = then.deed(row[i]);
            if (why > 0) {
                return what == 0 ? i : what == 1 ? why : what == 2 ? then.debt() : then.quarter;
            }
        }
        return what == 0 ? -1 : what == 1 ? 0 : what == 2 ? then.debt() : then.quarter;
    }

    private boolean done(long deed) {
        State before = now.copied();
        if (now.deed(deed) > 0) {
            return false;
        }
        remember(before);
        return true;
    }

    public int perform(int tray) {
        long[] row = tray(tray);
        int many = 0;
        while (many < row.length && done(row[many])) {
            many++;
        }
        return many;
    }

    public int year(int seed, int times) {
        good(times >= 1 && times <= 30);
        int[] x = {seed};
        int done = 0;
        for (int i = 0; i < times; i++) {
            int sort = draw(x) % 6;
            int many = now.homes.size();
            if (sort <= 1) {
                done += done(-1) ? 1 : 0;
            } else if (many > 0) {
                int a = draw(x) % many;
                int b = sort == 2 || sort == 5 ? draw(x) % many : 0;
                long deed = sort == 2 ? 10 * a + b : sort == 3 ? 100 + a : sort == 4 ? 200 + a : 300 + 10 * a + b;
                done += done(deed) ? 1 : 0;
            }
        }
        return done;
    }

    private static int draw(int[] x) {
        x[0] = 1103515245 * x[0] + 12345;
        return x[0] >>> 16;
    }

    private State in(int n) {
        good(n >= 0 && n <= 200);
        State then = now.copied();
        then.lost(n);
        return then;
    }

    public int debtIn(int h, int n) {
        house(h);
        return in(n).debts.get(h);
    }

    public int cashIn(int h, int n) {
        house(h);
        return in(n).homes.get(h).cash;
    }

    private int first(IntPredicate is) {
        for (int n = 0; n <= 200; n++) {
            if (is.test(n)) {
                return n;
            }
        }
        return -1;
    }

    public int ruinIn(int h) {
        house(h);
        return first(n -> in(n).homes.get(h).gone);
    }

    public int lost(int n) {
        near(n);
        return now.copied().lost(n);
    }

    public int clear() {
        return first(n -> in(n).debt() == 0);
    }

    public int seaIn(int n) {
        return in(n).sea;
    }

    public long burden(int h, int n) {
        house(h);
        near(n);
        return now.copied().burdens(n)[h];
    }

    public int heaviest(int n) {
        near(n);
        long[] all = now.copied().burdens(n);
        for (int h = 0; h < all.length; h++) {
            boolean most = true;
            for (long other : all) {
                most = most && all[h] >= other;
            }
            if (most) {
                return h;
            }
        }
        return -1;
    }

    public long paid(int n) {
        near(n);
        State then = now.copied();
        long all = 0;
        for (int i = 0; i < n; i++) {
            then.quarter();
            all += then.paid;
        }
        return all;
    }

    /** All orders in their order, each with how many are lost by it as its last number. */
    private List<int[]> tried(int n) {
        List<int[]> all = new ArrayList<>();
        lay(n, new int[now.homes.size() + 1], 0, all);
        return all;
    }

    private void lay(int n, int[] order, int laid, List<int[]> all) {
        int many = now.homes.size();
        if (laid == many) {
            State then = now.copied();
            for (int k = 0; k < many; k++) {
                then.homes.set(k, now.homes.get(order[k]).copied());
            }
            order[many] = then.lost(n);
            all.add(order.clone());
            return;
        }
        for (int h = 0; h < many; h++) {
            boolean free = true;
            for (int k = 0; k < laid; k++) {
                free = free && order[k] != h;
            }
            if (free) {
                order[laid] = h;
                lay(n, order, laid + 1, all);
            }
        }
    }

    public int order(int n, int what) {
        near(n);
        good(what == 0 || what >= 10 && what <= 16);
        int many = now.homes.size();
        int[] best = null;
        for (int[] order : tried(n)) {
            if (best == null || order[many] < best[many]) {
                best = order;
            }
        }
        return what == 0 ? best[many] : what - 10 < many ? best[what - 10] : -1;
    }

    public int orders(int n) {
        int fewest = order(n, 0);
        int alike = 0;
        for (int[] order : tried(n)) {
            alike += order[now.homes.size()] == fewest ? 1 : 0;
        }
        return alike;
    }

    public int bestSwap(int n) {
        int least = lost(n);
        int best = -1;
        for (int g = 0; g < now.homes.size(); g++) {
            for (int h = g + 1; h < now.homes.size(); h++) {
                int lost = now.swapped(g, h).lost(n);
                if (lost < least) {
                    least = lost;
                    best = 10 * g + h;
                }
            }
        }
        return best;
    }

    public int wouldSwap(int n) {
        near(n);
        for (int g = 0; g < now.homes.size(); g++) {
            for (int h = g + 1; h < now.homes.size(); h++) {
                long[] before = now.copied().burdens(n);
                long[] then = now.swapped(g, h).burdens(n);
                if (!now.homes.get(g).gone && !now.homes.get(h).gone && then[h] < before[g] && then[g] < before[h]) {
                    return 10 * g + h;
                }
            }
        }
        return -1;
    }

    public int bestHouse(int h, int n) {
        house(h);
        near(n);
        int best = 0;
        for (int k = 1; k < now.homes.size(); k++) {
            if (now.swapped(h, k).burdens(n)[k] < now.swapped(h, best).burdens(n)[best]) {
                best = k;
            }
        }
        return best;
    }

    public int hedges(int h, int n, int what) {
        house(h);
        near(n);
        good(what == 0 || what == 1);
        alive(h);
        int many = now.homes.size();
        for (int fewest = 0; fewest <= many; fewest++) {
            for (int set = 0; set < 1 << many; set++) {
                if (Integer.bitCount(set) == fewest) {
                    State then = now.copied();
                    for (int k = 0; k < many; k++) {
                        if ((set & 1 << k) != 0) {
                            then.hedges.set(k, n);
                        }
                    }
                    then.lost(n);
                    if (!then.homes.get(h).gone) {
                        return what == 0 ? fewest : set;
                    }
                }
            }
        }
        return -1;
    }

    public int bestHedge(int n) {
        int least = lost(n);
        int best = -1;
        for (int h = 0; h < now.homes.size(); h++) {
            State then = now.copied();
            then.hedges.set(h, n);
            int lost = then.lost(n);
            if (lost < least) {
                least = lost;
                best = h;
            }
        }
        return best;
    }

    public int saves(int h, int n) {
        house(h);
        near(n);
        alive(h);
        for (int c = 0; c <= 999; c++) {
            State then = now.copied();
            then.homes.get(h).cash = Math.min(MAX, then.homes.get(h).cash + c);
            then.lost(n);
            if (!then.homes.get(h).gone) {
                return c;
            }
        }
        return -1;
    }

    public int leastLimit(int n) {
        near(n);
        for (int limit = 0; limit <= 999; limit++) {
            State then = now.copied();
            then.limit = limit;
            if (then.lost(n) == 0) {
                return limit;
            }
        }
        return -1;
    }

    public int worth(int h, int n) {
        house(h);
        near(n);
        alive(h);
        return others(h, n, true) - others(h, n, false);
    }

    private int others(int h, int n, boolean goneNow) {
        State then = now.copied();
        if (goneNow) {
            then.homes.get(h).gone = true;
            then.homes.get(h).cash = 0;
        }
        then.lost(n);
        int lost = 0;
        for (int k = 0; k < now.homes.size(); k++) {
            lost += k != h && !now.homes.get(k).gone && then.homes.get(k).gone ? 1 : 0;
        }
        return lost;
    }

    public int pillar(int n) {
        near(n);
        int last = -1;
        for (int h = 0; h < now.homes.size(); h++) {
            if (others(h, n, true) > others(h, n, false)) {
                last = h;
            }
        }
        return last;
    }

    private List<int[]> twos(int tray, int h) {
        if (tray >= 0 && tray <= 3) {
            house(h);
        }
        long[] row = tray(tray);
        good(row.length >= 1 && row.length <= 12);
        for (long v : row) {
            good(v >= -1 && v <= MAX);
        }
        List<int[]> twos = new ArrayList<>();
        for (int k = 0; k < now.homes.size(); k++) {
            for (int d = 1; d <= 99; d++) {
                State then = now.told.copied();
                then.debts.set(k, then.debts.get(k) + d);
                boolean like = true;
                for (long v : row) {
                    then.quarter();
                    like = like && (v == -1 || v == then.goes[h]);
                }
                if (like) {
                    then.quarter();
                    int[] two = new int[then.goes.length + 1];
                    System.arraycopy(then.goes, 0, two, 1, then.goes.length);
                    two[0] = 100 * k + d;
                    twos.add(two);
                }
            }
        }
        return twos;
    }

    public int seen(int tray, int h) {
        return twos(tray, h).size();
    }

    public int hidden(int tray, int h, int k) {
        List<int[]> twos = twos(tray, h);
        good(k >= 0);
        return k < twos.size() ? twos.get(k)[0] : -1;
    }

    public int look(int tray, int h) {
        List<int[]> twos = twos(tray, h);
        int best = -1;
        int least = Integer.MAX_VALUE;
        for (int door = 0; door < now.homes.size() && !twos.isEmpty(); door++) {
            Map<Integer, Integer> alike = new HashMap<>();
            int greatest = 0;
            for (int[] two : twos) {
                greatest = Math.max(greatest, alike.merge(two[door + 1], 1, Integer::sum));
            }
            if (greatest < least) {
                least = greatest;
                best = door;
            }
        }
        return best;
    }

    public void tray(int tray, int sort, int many) {
        if (tray < 0 || tray > 3) {
            throw new NoSuchElementException();
        }
        good(sort >= 0 && sort <= 3 && many >= 0 && many <= 30);
        trays[tray] = new long[many];
        sorts[tray] = sort;
    }

    public long write(int tray, int place, long v) {
        long[] row = tray(tray);
        if (place < 0 || place >= row.length) {
            throw new IndexOutOfBoundsException();
        }
        int lost = 64 - (8 << sorts[tray]);
        row[place] = v << lost >> lost;
        return row[place];
    }

    public int copy(int tray, int h) {
        if (tray >= 0 && tray <= 3) {
            house(h);
        }
        long[] row = tray(tray);
        State then = now.copied();
        for (int i = 0; i < row.length; i++) {
            then.quarter();
            write(tray, i, then.goes[h]);
        }
        return row.length;
    }

    public void image(int i) {
        if (i < 0 || i > 2) {
            throw new NoSuchElementException();
        }
        images[i] = now.copied();
        imageDeeds.set(i, deeds.clone());
    }

    public void restore(int i) {
        if (i < 0 || i > 2) {
            throw new NoSuchElementException();
        }
        if (images[i] == null) {
            throw new IllegalStateException();
        }
        now = images[i].copied();
        deeds = imageDeeds.get(i).clone();
    }

    public int count(int what) {
        int cash = 0;
        for (Household h : now.homes) {
            cash += h.cash;
        }
        int many = now.homes.size();
        int[] all = {now.lines, many, many - now.alive(), now.debt(), cash, now.sea, now.limit, now.quarter,
            now.ring ? 1 : 0, deeds.size(), tape.length()};
        return what >= 0 && what < all.length ? all[what] : -1;
    }
}
