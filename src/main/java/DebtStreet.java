import java.util.Arrays;
import java.util.NoSuchElementException;

/** Debts that go next door along a street of houses: told as a text, lived by quarters, asked about what is to come. */
public final class DebtStreet {
    public static final int NONE = -1;

    private static final int MOST_HOUSES = 7;
    private static final int MOST_ORDERS = 5040;
    private static final int MOST_TEXT = 900;
    private static final int MOST_MONEY = 999_999;
    private static final int MOST_GROWTH = 999;
    private static final int MOST_GIVEN = 999;
    private static final int MOST_HEDGE = 20;
    private static final int MOST_NEAR = 20;
    private static final int MOST_FAR = 200;
    private static final int MOST_DEEDS = 10;
    private static final int MOST_PLACES = 30;
    private static final int MOST_SEEN = 12;
    private static final int MOST_HIDDEN = 99;
    private static final int TRAYS = 4;
    private static final int IMAGES = 3;
    private static final int TOLD_HEDGE = 4;
    private static final int TOLD_GIFT = 10;

    // Kinds of tokens: a sign is its own character, a word WORD and its number in WORDS.
    private static final int END = 0;
    private static final int BAD = 1;
    private static final int NUMBER = 2;
    private static final int UNKNOWN = 3;
    private static final int WORD = 128;
    private static final int DEBT = 128;
    private static final int HOUSE = 129;
    private static final int QUARTER = 130;
    private static final int CASH = 131;
    private static final int EARNS = 132;
    private static final int SPENDS = 133;
    private static final int OWN = 134;
    private static final int STREET = 135;
    private static final int RING = 136;
    private static final int ROW = 137;
    private static final int OWES = 138;
    private static final int HEDGE = 139;
    private static final int EMPTY = 140;
    private static final int PAYS = 141;
    private static final int GROWS = 142;
    private static final int TAKES = 143;
    private static final int LIMIT = 144;
    private static final int NOT = 145;
    private static final int AND = 146;
    private static final int OR = 147;
    private static final String WORDS =
            "debt house quarter cash earns spends own street ring row owes hedge empty pays grows takes limit not and or ";
    private static final String SIGNS = ";:+-*()[]=<>";

    private static final int NO_TOKEN = 1;
    private static final int CANNOT_STAND = 2;
    private static final int OUT_OF_BOUNDS = 3;
    private static final int TOO_MANY = 4;
    private static final int MOST_NESTED = 6;

    private static final int NO_SUCH = 1;
    private static final int IS_GONE = 2;
    private static final int HAS_NOT = 3;

    // A law's code: a number below TOKEN stands for itself, any other one is TOKEN and a token's kind.
    private static final int TOKEN = 1000;
    private static final int[] NO_LAW = {};

    private final byte[] tape;
    private int tapeLength;
    private int faultKind;
    private int faultPlace;
    private final Teller teller;
    private Told told;
    private final Street now;
    private final History history;
    private final Image[] images;
    private final Tray[] trays;
    private final Course course;
    private final Orders sorter;
    private final Doors doors;
    private int drawn;

    public DebtStreet() {
        tape = new byte[MOST_TEXT];
        faultPlace = NONE;
        told = new Told();
        teller = new Teller();
        now = new Street();
        history = new History();
        images = new Image[IMAGES];
        for (int i = 0; i < images.length; i++) {
            images[i] = new Image();
        }
        trays = new Tray[TRAYS];
        for (int i = 0; i < trays.length; i++) {
            trays[i] = new Tray();
        }
        course = new Course();
        sorter = new Orders();
        doors = new Doors();
    }

    // ---- the street

    public int feed(int a, int b, int c, int d, int e) {
        if (tapeLength + 20 > tape.length) {
            return NONE;
        }
        feedInt(a);
        feedInt(b);
        feedInt(c);
        feedInt(d);
        feedInt(e);
        return tapeLength;
    }

    private void feedInt(int bytes) {
        for (int shift = 24; shift >= 0 && tapeLength < tape.length; shift -= 8) {
            tape[tapeLength] = (byte) (bytes >> shift);
            tapeLength++;
        }
    }

    public int street(int n) throws IllegalArgumentException {
        if (n < 0 || n > tapeLength) {
            throw new IllegalArgumentException("the tape has not so many bytes");
        }
        boolean understood = teller.read(tape, n);
        tapeLength = 0;
        faultKind = teller.fault;
        faultPlace = teller.place;
        if (!understood) {
            return -10 - faultKind;
        }
        told = teller.told;
        now.takeOver(told.start);
        history.many = 0;
        return told.lines;
    }

    public int fault(int what) {
        return what == 0 ? faultKind : what == 1 ? faultPlace : NONE;
    }

    public int house(int h, int what) throws NoSuchElementException, IllegalArgumentException {
        checkHouse(h);
        switch (what) {
            case 0: return now.debt[h];
            case 1: return now.hedge[h];
            case 2: return told.next(h, now.houses);
            default: throw new IllegalArgumentException("what is 0 to 2");
        }
    }

    public int household(int h, int what) throws NoSuchElementException, IllegalArgumentException {
        checkHouse(h);
        switch (what) {
            case 0: return now.earns[h];
            case 1: return now.spends[h];
            case 2: return now.cash[h];
            case 3: return now.gone[h];
            default: throw new IllegalArgumentException("what is 0 to 3");
        }
    }

    public int pays(int h) throws NoSuchElementException, IllegalStateException {
        checkHouse(h);
        checkNotGone(h);
        return course.payment(told, now, h, now.cash[h], now.debt[h]);
    }

    public int grows(int h, int d) throws NoSuchElementException, IllegalArgumentException {
        checkHouse(h);
        checkWithin(d, 0, MOST_MONEY);
        return course.growth(told, now, h, d);
    }

    public boolean takes(int h, int d) throws NoSuchElementException, IllegalArgumentException {
        checkHouse(h);
        checkWithin(d, 0, MOST_MONEY);
        return course.taking(told, now, h, d);
    }

    private void checkHouse(int h) {
        if (!now.has(h)) {
            throw new NoSuchElementException("no such house");
        }
    }

    private void checkNotGone(int h) {
        if (now.isGone(h)) {
            throw new IllegalStateException("the household is gone");
        }
    }

    private void checkWithin(int n, int least, int most) {
        if (n < least || n > most) {
            throw new IllegalArgumentException("a number is out of its bounds");
        }
    }

    // ---- deeds

    public int swap(int g, int h) {
        int why = now.whyNoSwap(g, h);
        if (why != 0) {
            return -why;
        }
        history.remember(now);
        now.exchange(g, h);
        return now.debt[g] + now.debt[h];
    }

    public int gift(int g, int h, int n) {
        int why = n < 1 || n > MOST_GIVEN ? NO_SUCH : now.whyNoGift(g, h, n);
        if (why != 0) {
            return -why;
        }
        history.remember(now);
        now.give(g, h, n);
        return now.cash[g];
    }

    public int plant(int h, int n) throws NoSuchElementException, IllegalArgumentException {
        checkHouse(h);
        checkWithin(n, 0, MOST_HEDGE);
        int before = now.hedge[h];
        history.remember(now);
        now.hedge[h] = n;
        return before;
    }

    public int payOff(int h, int n) {
        int why = n < 1 || n > MOST_GIVEN ? NO_SUCH : now.whyNoPayOff(h);
        if (why != 0) {
            return -why;
        }
        history.remember(now);
        return now.payBack(h, n);
    }

    public int quarters(int n) throws IllegalArgumentException {
        checkWithin(n, 1, 99);
        history.remember(now);
        int ruined = 0;
        for (int i = 0; i < n; i++) {
            course.pass(told, now, told.limit);
            ruined += course.ruinedNow;
        }
        return ruined;
    }

    public int undo(int n) throws IllegalArgumentException {
        checkWithin(n, 1, MOST_DEEDS);
        if (n > history.many) {
            throw new IllegalArgumentException("there are not so many deeds");
        }
        history.goBack(n, now);
        return history.many;
    }

    public int judge(int tray, int what)
            throws NoSuchElementException, IllegalStateException, IllegalArgumentException {
        Tray deeds = trayAt(tray);
        checkWithin(what, 0, 3);
        Street then = course.from(told, now);
        int place = NONE;
        int why = 0;
        for (int i = 0; i < deeds.many && why == 0; i++) {
            why = whyNot(then, deeds.at(i));
            if (why == 0) {
                carryOut(then, deeds.at(i));
            } else {
                place = i;
            }
        }
        switch (what) {
            case 0: return place;
            case 1: return why;
            case 2: return then.sum(then.debt);
            default: return then.quarter;
        }
    }

    public int perform(int tray) throws NoSuchElementException, IllegalStateException {
        Tray deeds = trayAt(tray);
        for (int i = 0; i < deeds.many; i++) {
            if (!couldDo(deeds.at(i))) {
                return i;
            }
        }
        return deeds.many;
    }

    public int year(int seed, int times) throws IllegalArgumentException {
        checkWithin(times, 1, 30);
        drawn = seed;
        int done = 0;
        for (int i = 0; i < times; i++) {
            if (couldDo(drawDeed())) {
                done++;
            }
        }
        return done;
    }

    /** A told deed by draws; one that can't be where there are no houses to draw. */
    private int drawDeed() {
        int sort = draw(6);
        if (sort < 2) {
            return NONE;
        }
        if (now.houses == 0) {
            return 0;
        }
        int first = draw(now.houses);
        switch (sort) {
            case 2: return first * 10 + draw(now.houses);
            case 3: return 100 + first;
            case 4: return 200 + first;
            default: return 300 + first * 10 + draw(now.houses);
        }
    }

    private int draw(int modulo) {
        drawn = 1103515245 * drawn + 12345;
        return modulo < 1 ? 0 : (drawn >>> 16) % modulo;
    }

    private boolean couldDo(long deed) {
        if (whyNot(now, deed) != 0) {
            return false;
        }
        history.remember(now);
        carryOut(now, deed);
        return true;
    }

    /** Why a told deed can't be; 0: it can. */
    private int whyNot(Street s, long deed) {
        if (deed == NONE) {
            return 0;
        }
        if (deed < 0 || deed > 399) {
            return NO_SUCH;
        }
        int sort = (int) (deed / 100);
        int g = (int) (deed / 10 % 10);
        int h = (int) (deed % 10);
        switch (sort) {
            case 0: return s.whyNoSwap(g, h);
            case 1: return g == 0 && s.has(h) ? 0 : NO_SUCH;
            case 2: return g == 0 ? s.whyNoPayOff(h) : NO_SUCH;
            default: return s.whyNoGift(g, h, TOLD_GIFT);
        }
    }

    /** Does a told deed that can be. */
    private void carryOut(Street s, long deed) {
        if (deed < 0) {
            course.pass(told, s, told.limit);
            return;
        }
        int sort = (int) (deed / 100);
        int g = (int) (deed / 10 % 10);
        int h = (int) (deed % 10);
        if (sort == 0) {
            s.exchange(g, h);
        } else if (sort == 1 && s.has(h)) {
            s.hedge[h] = TOLD_HEDGE;
        } else if (sort == 2) {
            s.payBack(h, MOST_MONEY);
        } else {
            s.give(g, h, TOLD_GIFT);
        }
    }

    // ---- to come

    public int debtIn(int h, int n) throws NoSuchElementException, IllegalArgumentException {
        checkHouse(h);
        return streetIn(n).debt[h];
    }

    public int cashIn(int h, int n) throws NoSuchElementException, IllegalArgumentException {
        checkHouse(h);
        return streetIn(n).cash[h];
    }

    public int seaIn(int n) throws IllegalArgumentException {
        return streetIn(n).sea;
    }

    private Street streetIn(int n) {
        checkWithin(n, 0, MOST_FAR);
        Street then = course.from(told, now);
        for (int i = 0; i < n; i++) {
            course.pass(told, then, told.limit);
        }
        return then;
    }

    public int ruinIn(int h) throws NoSuchElementException {
        checkHouse(h);
        Street then = course.from(told, now);
        for (int i = 0; i <= MOST_FAR; i++) {
            if (then.isGone(h)) {
                return i;
            }
            course.pass(told, then, told.limit);
        }
        return NONE;
    }

    public int lost(int n) throws IllegalArgumentException {
        checkNear(n);
        return lostNow(n);
    }

    public int clear() {
        Street then = course.from(told, now);
        for (int i = 0; i <= MOST_FAR; i++) {
            if (then.sum(then.debt) == 0) {
                return i;
            }
            course.pass(told, then, told.limit);
        }
        return NONE;
    }

    public long burden(int h, int n) throws NoSuchElementException, IllegalArgumentException {
        checkHouse(h);
        checkNear(n);
        course.from(told, now);
        course.addBurdens(n);
        return course.burdens[h];
    }

    public int heaviest(int n) throws IllegalArgumentException {
        checkNear(n);
        course.from(told, now);
        course.addBurdens(n);
        int best = NONE;
        for (int h = 0; h < now.houses && h < MOST_HOUSES; h++) {
            if (best == NONE || course.burdens[h] > course.burdens[best]) {
                best = h;
            }
        }
        return best;
    }

    public long paid(int n) throws IllegalArgumentException {
        checkNear(n);
        Street then = course.from(told, now);
        long all = 0;
        for (int i = 0; i < n; i++) {
            course.pass(told, then, told.limit);
            all += course.paidNow;
        }
        return all;
    }

    private void checkNear(int n) {
        checkWithin(n, 1, MOST_NEAR);
    }

    private int lostNow(int n) {
        course.from(told, now);
        return course.losses(n, MOST_HOUSES);
    }

    // ---- who lives where

    public int order(int n, int what) throws IllegalArgumentException {
        checkNear(n);
        if (what != 0) {
            checkWithin(what, 10, 16);
        }
        sorter.search(course, told, now, n, false);
        if (what == 0) {
            return sorter.fewest;
        }
        return now.has(what - 10) ? sorter.best[what - 10] : NONE;
    }

    public int orders(int n) throws IllegalArgumentException {
        checkNear(n);
        sorter.search(course, told, now, n, true);
        return sorter.alike;
    }

    public int bestSwap(int n) throws IllegalArgumentException {
        checkNear(n);
        int fewest = lostNow(n);
        int best = NONE;
        for (int g = 0; g < now.houses && g < MOST_HOUSES; g++) {
            for (int h = g + 1; h < now.houses && h < MOST_HOUSES; h++) {
                course.from(told, now).exchange(g, h);
                int lost = course.losses(n, fewest);
                if (lost < fewest) {
                    fewest = lost;
                    best = g * 10 + h;
                }
            }
        }
        return best;
    }

    public int wouldSwap(int n) throws IllegalArgumentException {
        checkNear(n);
        course.from(told, now);
        course.addBurdens(n);
        course.keepBurdens();
        for (int g = 0; g < now.houses && g < MOST_HOUSES; g++) {
            for (int h = g + 1; h < now.houses && h < MOST_HOUSES; h++) {
                if (bothGain(g, h, n)) {
                    return g * 10 + h;
                }
            }
        }
        return NONE;
    }

    /** Whether two would swap, as against the burdens that were kept. */
    private boolean bothGain(int g, int h, int n) {
        if (now.isGone(g) || now.isGone(h)) {
            return false;
        }
        course.from(told, now).exchange(g, h);
        course.addBurdens(n);
        return course.burdens[h] < course.kept[g] && course.burdens[g] < course.kept[h];
    }

    public int bestHouse(int h, int n) throws NoSuchElementException, IllegalArgumentException {
        checkHouse(h);
        checkNear(n);
        int best = NONE;
        long least = 0;
        for (int k = 0; k < now.houses && k < MOST_HOUSES; k++) {
            course.from(told, now).exchange(h, k);
            course.addBurdens(n);
            if (best == NONE || course.burdens[k] < least) {
                best = k;
                least = course.burdens[k];
            }
        }
        return best;
    }

    // ---- hedges, gifts, limits

    public int hedges(int h, int n, int what)
            throws NoSuchElementException, IllegalArgumentException, IllegalStateException {
        checkHouse(h);
        checkNear(n);
        checkWithin(what, 0, 1);
        checkNotGone(h);
        int fewest = MOST_HOUSES + 1;
        int best = NONE;
        for (int set = 0; set < 1 << Math.min(now.houses, MOST_HOUSES); set++) {
            if (Integer.bitCount(set) < fewest && isSavedBy(set, h, n)) {
                fewest = Integer.bitCount(set);
                best = set;
            }
        }
        return best == NONE || what == 1 ? best : fewest;
    }

    private boolean isSavedBy(int set, int h, int n) {
        Street then = course.from(told, now);
        for (int k = 0; k < then.houses && k < MOST_HOUSES; k++) {
            if ((set >> k & 1) == 1) {
                then.hedge[k] = n;
            }
        }
        return !course.ruins(h, n);
    }

    public int bestHedge(int n) throws IllegalArgumentException {
        checkNear(n);
        int fewest = lostNow(n);
        int best = NONE;
        for (int h = 0; h < now.houses && h < MOST_HOUSES; h++) {
            course.from(told, now).hedge[h] = n;
            int lost = course.losses(n, fewest);
            if (lost < fewest) {
                fewest = lost;
                best = h;
            }
        }
        return best;
    }

    public int saves(int h, int n) throws NoSuchElementException, IllegalArgumentException, IllegalStateException {
        checkHouse(h);
        checkNear(n);
        checkNotGone(h);
        for (int more = 0; more <= MOST_GIVEN; more++) {
            course.from(told, now).cash[h] = Math.min(now.cash[h] + more, MOST_MONEY);
            if (!course.ruins(h, n)) {
                return more;
            }
        }
        return NONE;
    }

    public int leastLimit(int n) throws IllegalArgumentException {
        checkNear(n);
        // Below the greatest debt that comes up while nobody is ruined somebody is, from it on nobody.
        Street then = course.from(told, now);
        int greatest = 0;
        for (int i = 0; i < n; i++) {
            course.pass(told, then, MOST_MONEY);
            for (int h = 0; h < then.houses && h < MOST_HOUSES; h++) {
                if (!then.isGone(h)) {
                    greatest = Math.max(greatest, then.debt[h]);
                }
            }
        }
        return greatest <= 999 ? greatest : NONE;
    }

    public int worth(int h, int n) throws NoSuchElementException, IllegalArgumentException, IllegalStateException {
        checkHouse(h);
        checkNear(n);
        checkNotGone(h);
        return lossWithout(h, n);
    }

    /** How many more of the others are lost if a household that isn't gone were. */
    private int lossWithout(int h, int n) {
        Street then = course.from(told, now);
        int lostNow = course.losses(n, MOST_HOUSES);
        int othersLost = then.isGone(h) ? lostNow - 1 : lostNow;
        course.from(told, now).ruin(h);
        return course.losses(n, MOST_HOUSES) - othersLost;
    }

    public int pillar(int n) throws IllegalArgumentException {
        checkNear(n);
        for (int h = MOST_HOUSES - 1; h >= 0; h--) {
            if (now.has(h) && !now.isGone(h) && lossWithout(h, n) > 0) {
                return h;
            }
        }
        return NONE;
    }

    // ---- hidden debts

    public int seen(int tray, int h) throws NoSuchElementException, IllegalStateException, IllegalArgumentException {
        doors.find(course, told, seenTray(tray, h), h);
        return doors.found;
    }

    public int hidden(int tray, int h, int k)
            throws NoSuchElementException, IllegalStateException, IllegalArgumentException {
        Tray row = seenTray(tray, h);
        if (k < 0) {
            throw new IllegalArgumentException("k is below 0");
        }
        doors.find(course, told, row, h);
        return k < doors.found && k < doors.twos.length ? doors.twos[k] : NONE;
    }

    public int look(int tray, int h) throws NoSuchElementException, IllegalStateException, IllegalArgumentException {
        doors.find(course, told, seenTray(tray, h), h);
        return doors.tellingMost(now.houses);
    }

    private Tray seenTray(int tray, int h) {
        checkTray(tray);
        checkHouse(h);
        Tray seen = trayAt(tray);
        if (seen.many < 1 || seen.many > MOST_SEEN) {
            throw new IllegalArgumentException("not 1 to 12 numbers");
        }
        for (int i = 0; i < seen.many; i++) {
            if (seen.at(i) < NONE || seen.at(i) > MOST_MONEY) {
                throw new IllegalArgumentException("a number that can't be seen");
            }
        }
        return seen;
    }

    // ---- trays, images

    public void tray(int tray, int sort, int many) throws NoSuchElementException, IllegalArgumentException {
        checkTray(tray);
        checkWithin(sort, 0, 3);
        checkWithin(many, 0, MOST_PLACES);
        trays[tray].lay(sort, many);
    }

    public long write(int tray, int place, long v)
            throws NoSuchElementException, IllegalStateException, IndexOutOfBoundsException {
        Tray row = trayAt(tray);
        if (place < 0 || place >= row.many) {
            throw new IndexOutOfBoundsException("no such place");
        }
        row.put(place, v);
        return row.at(place);
    }

    public int copy(int tray, int h) throws NoSuchElementException, IllegalStateException {
        checkTray(tray);
        checkHouse(h);
        Tray row = trayAt(tray);
        Street then = course.from(told, now);
        for (int i = 0; i < row.many; i++) {
            course.pass(told, then, told.limit);
            row.put(i, course.came[h]);
        }
        return row.many;
    }

    private void checkTray(int tray) {
        if (tray < 0 || tray >= trays.length) {
            throw new NoSuchElementException("no such tray");
        }
    }

    private Tray trayAt(int tray) {
        checkTray(tray);
        if (trays[tray].isMissing()) {
            throw new IllegalStateException("the tray is missing");
        }
        return trays[tray];
    }

    public void image(int i) throws NoSuchElementException {
        checkImage(i);
        images[i].told = told;
        images[i].street.takeOver(now);
        images[i].history.takeOver(history);
    }

    public void restore(int i) throws NoSuchElementException, IllegalStateException {
        checkImage(i);
        Told before = images[i].told;
        if (before == null) {
            throw new IllegalStateException("no image was made");
        }
        told = before;
        now.takeOver(images[i].street);
        history.takeOver(images[i].history);
    }

    private void checkImage(int i) {
        if (i < 0 || i >= images.length) {
            throw new NoSuchElementException("no such image");
        }
    }

    public int count(int what) {
        switch (what) {
            case 0: return told.lines;
            case 1: return now.houses;
            case 2: return now.sum(now.gone);
            case 3: return now.sum(now.debt);
            case 4: return now.sum(now.cash);
            case 5: return now.sea;
            case 6: return told.limit;
            case 7: return now.quarter;
            case 8: return told.ring ? 1 : 0;
            case 9: return history.many;
            case 10: return tapeLength;
            default: return NONE;
        }
    }

    /** The households and the houses as they stand at one time. */
    private static final class Street {
        int houses;
        int sea;
        int quarter;
        final int[] earns = new int[MOST_HOUSES];
        final int[] spends = new int[MOST_HOUSES];
        final int[] cash = new int[MOST_HOUSES];
        final int[] gone = new int[MOST_HOUSES];
        final int[] debt = new int[MOST_HOUSES];
        final int[] hedge = new int[MOST_HOUSES];

        boolean has(int h) {
            return h >= 0 && h < houses && h < MOST_HOUSES;
        }

        boolean isGone(int h) {
            return has(h) && gone[h] == 1;
        }

        void takeOver(Street from) {
            houses = from.houses;
            sea = from.sea;
            quarter = from.quarter;
            System.arraycopy(from.earns, 0, earns, 0, MOST_HOUSES);
            System.arraycopy(from.spends, 0, spends, 0, MOST_HOUSES);
            System.arraycopy(from.cash, 0, cash, 0, MOST_HOUSES);
            System.arraycopy(from.gone, 0, gone, 0, MOST_HOUSES);
            System.arraycopy(from.debt, 0, debt, 0, MOST_HOUSES);
            System.arraycopy(from.hedge, 0, hedge, 0, MOST_HOUSES);
        }

        boolean isLike(Street other) {
            boolean like = houses == other.houses && sea == other.sea && quarter == other.quarter;
            for (int h = 0; h < MOST_HOUSES && like; h++) {
                like = earns[h] == other.earns[h] && spends[h] == other.spends[h] && cash[h] == other.cash[h]
                        && gone[h] == other.gone[h] && debt[h] == other.debt[h] && hedge[h] == other.hedge[h];
            }
            return like;
        }

        int sum(int[] row) {
            int all = 0;
            for (int h = 0; h < houses && h < row.length; h++) {
                all += row[h];
            }
            return all;
        }

        int whyNoSwap(int g, int h) {
            return has(g) && has(h) && g != h ? 0 : NO_SUCH;
        }

        int whyNoGift(int g, int h, int n) {
            if (!has(g) || !has(h) || g == h) {
                return NO_SUCH;
            }
            if (isGone(g) || isGone(h)) {
                return IS_GONE;
            }
            return cash[g] < n ? HAS_NOT : 0;
        }

        int whyNoPayOff(int h) {
            if (!has(h)) {
                return NO_SUCH;
            }
            if (isGone(h)) {
                return IS_GONE;
            }
            return cash[h] == 0 || debt[h] == 0 ? HAS_NOT : 0;
        }

        void exchange(int g, int h) {
            if (has(g) && has(h)) {
                exchangeIn(earns, g, h);
                exchangeIn(spends, g, h);
                exchangeIn(cash, g, h);
                exchangeIn(gone, g, h);
            }
        }

        private void exchangeIn(int[] row, int g, int h) {
            int kept = row[g];
            row[g] = row[h];
            row[h] = kept;
        }

        void give(int g, int h, int n) {
            if (has(g) && has(h)) {
                cash[g] -= n;
                cash[h] = Math.min(cash[h] + n, MOST_MONEY);
            }
        }

        /** Pays off as much as can be, n at most: how much it was. */
        int payBack(int h, int n) {
            if (!has(h)) {
                return 0;
            }
            int paid = Math.min(n, Math.min(cash[h], debt[h]));
            cash[h] -= paid;
            debt[h] -= paid;
            return paid;
        }

        void ruin(int h) {
            if (has(h)) {
                gone[h] = 1;
                cash[h] = 0;
            }
        }

        /** The household that lives in a house of another street comes to a house of this one. */
        void moveIn(Street from, int home, int h) {
            if (has(h) && from.has(home)) {
                earns[h] = from.earns[home];
                spends[h] = from.spends[home];
                cash[h] = from.cash[home];
                gone[h] = from.gone[home];
            }
        }
    }

    /** A street as its text told it: nothing of it changes any more once it is told. */
    private static final class Told {
        final Street start = new Street();
        boolean ring;
        int lines;
        int limit = 100;
        int[] pays = NO_LAW;
        int[] grows = NO_LAW;
        int[] takes = NO_LAW;

        int next(int h, int houses) {
            return h + 1 < houses ? h + 1 : ring ? 0 : NONE;
        }
    }

    /** A text cut into its tokens; the last one is its end. */
    private static final class Tokens {
        final int[] kinds = new int[MOST_TEXT + 1];
        final int[] numbers = new int[MOST_TEXT + 1];
        final int[] places = new int[MOST_TEXT + 1];
        int many;

        void cut(byte[] text, int length) {
            int end = Math.min(length, text.length);
            many = 0;
            for (int at = 0; at < end; at++) {
                if (text[at] != 10 && text[at] != 32) {
                    at = Math.max(at, cutOne(text, at, end));
                }
            }
            add(END, 0, end);
        }

        /** Cuts the token that begins at a place: its last place. */
        private int cutOne(byte[] text, int from, int end) {
            int to = from + 1;
            if (isDigit(text[from])) {
                int number = text[from] - '0';
                while (to < end && isDigit(text[to])) {
                    // Beyond three digits it is no number any more: kept small, as it may go on for long.
                    number = Math.min(number * 10 + text[to] - '0', 1000);
                    to++;
                }
                add(to - from > 3 ? BAD : NUMBER, number, from);
            } else if (isLetter(text[from])) {
                while (to < end && isLetter(text[to])) {
                    to++;
                }
                add(wordOf(text, from, to), 0, from);
            } else {
                add(SIGNS.indexOf((char) (text[from] & 255)) >= 0 ? text[from] : BAD, 0, from);
            }
            return to - 1;
        }

        private boolean isDigit(int c) {
            return c >= '0' && c <= '9';
        }

        private boolean isLetter(int c) {
            return c >= 'a' && c <= 'z';
        }

        private int wordOf(byte[] text, int from, int to) {
            int word = WORD;
            int at = from;
            boolean like = true;
            for (int i = 0; i < WORDS.length(); i++) {
                if (WORDS.charAt(i) != ' ') {
                    like = like && at < to && text[at] == WORDS.charAt(i);
                    at++;
                } else if (like && at == to) {
                    return word;
                } else {
                    word++;
                    at = from;
                    like = true;
                }
            }
            return UNKNOWN;
        }

        private void add(int kind, int number, int place) {
            if (many >= 0 && many <= MOST_TEXT) {
                kinds[many] = kind;
                numbers[many] = number;
                places[many] = place;
                many++;
            }
        }
    }

    /** Reads a text, token by token, into a street as it is told, or to its first fault. */
    private static final class Teller {
        // The words that may stand in a law, as bits from debt on.
        private static final int PAYS_WORDS = 0b0111111;
        private static final int GROWS_WORDS = 0b0000111;
        private static final int TAKES_WORDS = 0b1001111;

        Told told = new Told();
        int fault;
        int place;
        private final Tokens tokens = new Tokens();
        private int here;
        private int token;
        private final int[] code = new int[MOST_TEXT];
        private int codeLength;
        private int lawWords;

        boolean read(byte[] text, int length) {
            told = new Told();
            fault = 0;
            place = NONE;
            tokens.cut(text, length);
            here = NONE;
            skip();
            boolean good = expect(STREET);
            told.ring = token == RING;
            good = good && expect(told.ring ? RING : ROW) && expect(';');
            told.lines = 1;
            for (int i = 0; i < MOST_TEXT && good && token != END; i++) {
                good = line(token) && expect(';');
                told.lines++;
            }
            return good;
        }

        private boolean line(int word) {
            switch (word) {
                case HOUSE:
                    return home(told.start);
                case PAYS:
                    return beginLaw(PAYS_WORDS) && sum(0) && keepLaw(word);
                case GROWS:
                    return beginLaw(GROWS_WORDS) && sum(0) && keepLaw(word);
                case TAKES:
                    return beginLaw(TAKES_WORDS) && truth(0) && keepLaw(word);
                case LIMIT:
                    skip();
                    told.limit = numberTo(999);
                    return told.limit != NONE;
                case QUARTER:
                    skip();
                    told.start.quarter = numberTo(999);
                    return told.start.quarter != NONE;
                default:
                    return fail(CANNOT_STAND);
            }
        }

        private void skip() {
            int next = here + 1;
            if (next >= 0 && next < tokens.many && next <= MOST_TEXT) {
                here = next;
                token = tokens.kinds[next];
            }
        }

        private boolean fail(int kind) {
            fault = token == BAD ? NO_TOKEN : kind;
            place = here >= 0 && here <= MOST_TEXT ? tokens.places[here] : 0;
            return false;
        }

        private boolean expect(int kind) {
            if (token != kind) {
                return fail(CANNOT_STAND);
            }
            skip();
            return true;
        }

        private int number() {
            return here >= 0 && here <= MOST_TEXT ? tokens.numbers[here] : 0;
        }

        /** A number from 0 to most; NONE at a fault. */
        private int numberTo(int most) {
            int number = number();
            if (token != NUMBER) {
                fail(CANNOT_STAND);
                return NONE;
            }
            if (number > most) {
                fail(OUT_OF_BOUNDS);
                return NONE;
            }
            skip();
            return number;
        }

        private boolean home(Street s) {
            int h = s.houses;
            if (h < 0 || h >= MOST_HOUSES) {
                return fail(TOO_MANY);
            }
            skip();
            s.earns[h] = numberTo(99);
            if (s.earns[h] == NONE || !expect(SPENDS)) {
                return false;
            }
            s.spends[h] = numberTo(99);
            boolean good = s.spends[h] != NONE;
            for (int i = 0; i < MOST_TEXT && good && isFlag(); i++) {
                good = flag(s, h);
            }
            if (s.gone[h] == 1) {
                s.cash[h] = 0;
            }
            s.houses++;
            return good;
        }

        private boolean isFlag() {
            return token == CASH || token == OWES || token == HEDGE || token == EMPTY;
        }

        private boolean flag(Street s, int h) {
            int word = token;
            skip();
            if (word == EMPTY) {
                s.gone[h] = 1;
                return true;
            }
            int number = numberTo(word == HEDGE ? MOST_HEDGE : 999);
            int[] row = word == CASH ? s.cash : word == OWES ? s.debt : s.hedge;
            row[h] = number;
            return number != NONE;
        }

        private boolean beginLaw(int words) {
            lawWords = words;
            codeLength = 0;
            skip();
            return expect(':');
        }

        private boolean keepLaw(int word) {
            int[] law = Arrays.copyOf(code, Math.max(codeLength, 0));
            if (word == PAYS) {
                told.pays = law;
            } else if (word == GROWS) {
                told.grows = law;
            } else {
                told.takes = law;
            }
            return true;
        }

        private void emit(int number) {
            if (codeLength >= 0 && codeLength < MOST_TEXT) {
                code[codeLength] = number;
                codeLength++;
            }
        }

        /** A truth; here as in the next ones depth tells how many of not [ ( stand around. */
        private boolean truth(int depth) {
            boolean good = both(depth);
            for (int i = 0; i < MOST_TEXT && good && token == OR; i++) {
                skip();
                good = both(depth);
                emit(TOKEN + OR);
            }
            return good;
        }

        private boolean both(int depth) {
            boolean good = unit(depth);
            for (int i = 0; i < MOST_TEXT && good && token == AND; i++) {
                skip();
                good = unit(depth);
                emit(TOKEN + AND);
            }
            return good;
        }

        private boolean unit(int depth) {
            int inside = depth;
            for (int i = 0; i <= MOST_NESTED && token == NOT; i++) {
                if (inside >= MOST_NESTED) {
                    return fail(TOO_MANY);
                }
                skip();
                inside++;
            }
            boolean good = token == '[' ? bracket(inside) : comparison(inside);
            if ((inside - depth & 1) == 1) {
                emit(TOKEN + NOT);
            }
            return good;
        }

        private boolean bracket(int depth) {
            if (depth >= MOST_NESTED) {
                return fail(TOO_MANY);
            }
            skip();
            return truth(depth + 1) && expect(']');
        }

        private boolean comparison(int depth) {
            if (!sum(depth)) {
                return false;
            }
            int sign = token;
            if (sign != '=' && sign != '<' && sign != '>') {
                return fail(CANNOT_STAND);
            }
            skip();
            boolean good = sum(depth);
            emit(TOKEN + sign);
            return good;
        }

        private boolean sum(int depth) {
            boolean good = term(depth);
            int sign = token;
            for (int i = 0; i < MOST_TEXT && good && (sign == '+' || sign == '-'); i++) {
                skip();
                good = term(depth);
                emit(TOKEN + sign);
                sign = token;
            }
            return good;
        }

        private boolean term(int depth) {
            boolean good = atom(depth);
            for (int i = 0; i < MOST_TEXT && good && token == '*'; i++) {
                skip();
                good = atom(depth);
                emit(TOKEN + '*');
            }
            return good;
        }

        private boolean atom(int depth) {
            if (token == '(') {
                return parenthesis(depth);
            }
            if (token == NUMBER) {
                emit(number());
            } else if (token >= DEBT && token <= OWN && (lawWords >> token - DEBT & 1) == 1) {
                emit(TOKEN + token);
            } else {
                return fail(CANNOT_STAND);
            }
            skip();
            return true;
        }

        private boolean parenthesis(int depth) {
            if (depth >= MOST_NESTED) {
                return fail(TOO_MANY);
            }
            skip();
            return sum(depth + 1) && expect(')');
        }
    }

    /** Weighs a law: its code works on a pile of numbers, a truth is 1 or 0. */
    private static final class Scales {
        private static final long MOST_KEPT = 1_000_000;

        // What the words stand for, from debt on.
        final int[] words = new int[OWN - DEBT + 1];
        private final int[] pile = new int[64];

        void put(int debt, int house, int quarter, int cash) {
            words[0] = debt;
            words[HOUSE - DEBT] = house;
            words[QUARTER - DEBT] = quarter % 1000;
            words[CASH - DEBT] = cash;
        }

        int weigh(int[] code) {
            int top = 0;
            for (int i = 0; i < code.length; i++) {
                int token = code[i] - TOKEN;
                if (token < 0 || token >= DEBT && token <= OWN) {
                    if (top >= pile.length) {
                        return 0;
                    }
                    pile[top] = token < 0 ? code[i] : words[token - DEBT];
                    top++;
                } else if (token == NOT) {
                    if (top < 1) {
                        return 0;
                    }
                    pile[top - 1] = 1 - pile[top - 1];
                } else {
                    if (top < 2) {
                        return 0;
                    }
                    top--;
                    pile[top - 1] = join(token, pile[top - 1], pile[top]);
                }
            }
            return top < 1 ? 0 : pile[0];
        }

        private int join(int token, int a, int b) {
            switch (token) {
                case '=': return a == b ? 1 : 0;
                case '<': return a < b ? 1 : 0;
                case '>': return a > b ? 1 : 0;
                case AND: return a & b;
                case OR: return a | b;
                default: break;
            }
            long joined = token == '+' ? (long) a + b : token == '-' ? (long) a - b : (long) a * b;
            return (int) (joined > MOST_KEPT ? MOST_KEPT : joined < -MOST_KEPT ? -MOST_KEPT : joined);
        }
    }

    /** The course of a street through quarters: of the one that is, or of one ahead as it would be. */
    private static final class Course {
        // Of the latest quarter: what went to each house, what all paid, how many were ruined.
        final int[] came = new int[MOST_HOUSES];
        int paidNow;
        int ruinedNow;
        // Of all quarters of addBurdens, and as they were once kept.
        final long[] burdens = new long[MOST_HOUSES];
        final long[] kept = new long[MOST_HOUSES];
        private final int[] left = new int[MOST_HOUSES];
        private final Scales scales = new Scales();
        private final Street ahead = new Street();
        private Told told = new Told();

        /** The street ahead, as another one is: to be changed, and to go through quarters. */
        Street from(Told told, Street now) {
            this.told = told;
            ahead.takeOver(now);
            return ahead;
        }

        void pass(Told told, Street s, int limit) {
            settle(told, s);
            for (int h = 0; h < s.houses && h < MOST_HOUSES; h++) {
                s.debt[h] = Math.min(s.debt[h] + growth(told, s, h, s.debt[h]), MOST_MONEY);
            }
            move(told, s);
            ruinedNow = 0;
            for (int h = 0; h < s.houses && h < MOST_HOUSES; h++) {
                if (s.gone[h] == 0 && s.debt[h] > limit) {
                    s.ruin(h);
                    ruinedNow++;
                }
                s.hedge[h] = Math.max(s.hedge[h] - 1, 0);
            }
            s.quarter++;
        }

        private void settle(Told told, Street s) {
            paidNow = 0;
            for (int h = 0; h < s.houses && h < MOST_HOUSES; h++) {
                if (s.gone[h] == 0) {
                    int cash = s.cash[h] + s.earns[h] - s.spends[h];
                    int debt = cash < 0 ? Math.min(s.debt[h] - cash, MOST_MONEY) : s.debt[h];
                    cash = Math.max(Math.min(cash, MOST_MONEY), 0);
                    int payment = payment(told, s, h, cash, debt);
                    s.cash[h] = cash - payment;
                    s.debt[h] = debt - payment;
                    paidNow += payment;
                }
            }
        }

        int payment(Told told, Street s, int h, int cash, int debt) {
            int most = Math.min(cash, debt);
            if (told.pays.length == 0 || most == 0 || !s.has(h)) {
                return most;
            }
            scales.put(debt, h, s.quarter, cash);
            scales.words[EARNS - DEBT] = s.earns[h];
            scales.words[SPENDS - DEBT] = s.spends[h];
            return Math.max(Math.min(scales.weigh(told.pays), most), 0);
        }

        int growth(Told told, Street s, int h, int debt) {
            if (told.grows.length == 0 || debt == 0) {
                return 0;
            }
            scales.put(debt, h, s.quarter, 0);
            return Math.max(Math.min(scales.weigh(told.grows), MOST_GROWTH), 0);
        }

        /** Whether the next house takes a debt, hedges aside. */
        boolean taking(Told told, Street s, int h, int debt) {
            int next = told.next(h, s.houses);
            if (told.takes.length == 0 || !s.has(next)) {
                return true;
            }
            scales.put(debt, next, s.quarter, s.cash[next]);
            scales.words[OWN - DEBT] = s.debt[next];
            return scales.weigh(told.takes) == 1;
        }

        private void move(Told told, Street s) {
            Arrays.fill(came, 0);
            for (int h = 0; h < s.houses && h < MOST_HOUSES; h++) {
                int next = told.next(h, s.houses);
                boolean hedged = s.has(next) && s.hedge[next] > 0;
                boolean goes = s.debt[h] > 0 && !hedged && taking(told, s, h, s.debt[h]);
                left[h] = goes ? s.debt[h] : 0;
                if (s.has(next)) {
                    came[next] = left[h];
                } else {
                    s.sea = Math.min(s.sea + left[h], MOST_MONEY);
                }
            }
            for (int h = 0; h < s.houses && h < MOST_HOUSES; h++) {
                s.debt[h] = Math.min(s.debt[h] - left[h] + came[h], MOST_MONEY);
            }
        }

        /** How many are ruined ahead in n quarters; it stops when these are more than enough. */
        int losses(int n, int enough) {
            int lost = 0;
            for (int i = 0; i < n && lost <= enough; i++) {
                pass(told, ahead, told.limit);
                lost += ruinedNow;
            }
            return lost;
        }

        /** Whether the household in a house is gone ahead in n quarters. */
        boolean ruins(int h, int n) {
            for (int i = 0; i < n && !ahead.isGone(h); i++) {
                pass(told, ahead, told.limit);
            }
            return ahead.isGone(h);
        }

        void addBurdens(int n) {
            Arrays.fill(burdens, 0);
            for (int i = 0; i < n; i++) {
                pass(told, ahead, told.limit);
                for (int h = 0; h < MOST_HOUSES; h++) {
                    burdens[h] += came[h];
                }
            }
        }

        void keepBurdens() {
            System.arraycopy(burdens, 0, kept, 0, MOST_HOUSES);
        }
    }

    /** The search for the order of households by which fewest are lost; it keeps the latest answer. */
    private static final class Orders {
        final int[] best = new int[MOST_HOUSES];
        int fewest;
        int alike;
        private final Street asked = new Street();
        private final int[] homes = new int[MOST_HOUSES];
        private Told askedTold;
        private int askedQuarters;
        private boolean askedAll;

        /** Goes through the orders, all of them or till none can be better. */
        void search(Course course, Told told, Street now, int n, boolean all) {
            boolean known = askedTold == told && askedQuarters == n && asked.isLike(now);
            if (known && (askedAll || !all)) {
                return;
            }
            askedTold = told;
            askedQuarters = n;
            asked.takeOver(now);
            askedAll = true;
            for (int h = 0; h < MOST_HOUSES; h++) {
                homes[h] = h;
            }
            fewest = MOST_HOUSES + 1;
            boolean more = true;
            for (int i = 0; i < MOST_ORDERS && more; i++) {
                Street then = course.from(told, now);
                for (int h = 0; h < now.houses && h < MOST_HOUSES; h++) {
                    then.moveIn(now, homes[h], h);
                }
                note(course.losses(n, fewest));
                more = step(Math.min(now.houses, MOST_HOUSES));
                if (more && fewest == 0 && !all) {
                    askedAll = false;
                    more = false;
                }
            }
        }

        private void note(int lost) {
            if (lost < fewest) {
                fewest = lost;
                alike = 0;
                System.arraycopy(homes, 0, best, 0, MOST_HOUSES);
            }
            if (lost == fewest) {
                alike++;
            }
        }

        /** The next order of the first houses by numbers; false: there is none. */
        private boolean step(int houses) {
            int low = houses - 2;
            while (low >= 0 && homes[low] > homes[low + 1]) {
                low--;
            }
            if (low < 0) {
                return false;
            }
            int high = houses - 1;
            while (high > low && homes[high] < homes[low]) {
                high--;
            }
            exchange(low, high);
            int left = low + 1;
            for (int right = houses - 1; left < right; right--) {
                exchange(left, right);
                left++;
            }
            return true;
        }

        private void exchange(int i, int k) {
            int kept = homes[i];
            homes[i] = homes[k];
            homes[k] = kept;
        }
    }

    /** The search for a hidden debt by what was seen at a door. */
    private static final class Doors {
        final int[] twos = new int[MOST_HOUSES * MOST_HIDDEN];
        int found;
        private final int[][] goes = new int[MOST_HOUSES][MOST_HOUSES * MOST_HIDDEN];

        /** Finds the twos, and for each of them what goes to the houses in the quarter behind those seen. */
        void find(Course course, Told told, Tray seen, int h) {
            found = 0;
            for (int two = 0; two < twos.length; two++) {
                int house = two / MOST_HIDDEN;
                int more = two % MOST_HIDDEN + 1;
                if (told.start.has(house)) {
                    Street then = course.from(told, told.start);
                    then.debt[house] += more;
                    if (fits(course, told, then, seen, h)) {
                        course.pass(told, then, told.limit);
                        note(house * 100 + more, course.came);
                    }
                }
            }
        }

        /** Whether a street, going through as many quarters, shows at a door what was seen there. */
        private boolean fits(Course course, Told told, Street then, Tray seen, int h) {
            if (!then.has(h)) {
                return false;
            }
            for (int i = 0; i < seen.many; i++) {
                course.pass(told, then, told.limit);
                if (seen.at(i) != NONE && seen.at(i) != course.came[h]) {
                    return false;
                }
            }
            return true;
        }

        private void note(int two, int[] came) {
            if (found >= 0 && found < twos.length) {
                twos[found] = two;
                for (int door = 0; door < MOST_HOUSES && door < came.length; door++) {
                    goes[door][found] = came[door];
                }
                found++;
            }
        }

        int tellingMost(int houses) {
            int best = NONE;
            int least = twos.length + 1;
            for (int door = 0; door < houses && door < MOST_HOUSES && found > 0; door++) {
                int many = mostAlike(goes[door], Math.min(found, twos.length));
                if (many < least) {
                    least = many;
                    best = door;
                }
            }
            return best;
        }

        /** How often the number stands in a row that stands there most often; the row is sorted by that. */
        private int mostAlike(int[] row, int many) {
            sort(row, many);
            int most = 0;
            int run = 0;
            for (int i = 0; i < many; i++) {
                run = i > 0 && row[i] == row[i - 1] ? run + 1 : 1;
                most = Math.max(most, run);
            }
            return most;
        }

        private void sort(int[] row, int many) {
            for (int gap = many / 2; gap > 0; gap /= 2) {
                for (int i = gap; i < many; i++) {
                    int moved = row[i];
                    int to = i;
                    while (to >= gap && row[to - gap] > moved) {
                        row[to] = row[to - gap];
                        to -= gap;
                    }
                    row[to] = moved;
                }
            }
        }
    }

    /** The deeds that can be undone: for each of them how all stood ahead of it, the latest last. */
    private static final class History {
        int many;
        private final Street[] before = new Street[MOST_DEEDS];

        History() {
            for (int i = 0; i < before.length; i++) {
                before[i] = new Street();
            }
        }

        void remember(Street now) {
            if (many < 0 || many >= before.length) {
                Street eldest = before[0];
                for (int i = 1; i < before.length; i++) {
                    before[i - 1] = before[i];
                }
                before[before.length - 1] = eldest;
                many = before.length - 1;
            }
            before[many].takeOver(now);
            many++;
        }

        void goBack(int n, Street now) {
            if (n > 0 && n <= many) {
                many -= n;
                now.takeOver(before[many]);
            }
        }

        void takeOver(History from) {
            many = from.many;
            for (int i = 0; i < many && i < before.length; i++) {
                before[i].takeOver(from.before[i]);
            }
        }
    }

    /** All as it was once; without a told street no image was made. */
    private static final class Image {
        Told told;
        final Street street = new Street();
        final History history = new History();
    }

    /** A row of numbers of one sort; missing until it is laid. */
    private static final class Tray {
        int many;
        private int sort = NONE;
        private final long[] row = new long[MOST_PLACES];

        boolean isMissing() {
            return sort == NONE;
        }

        void lay(int sort, int many) {
            this.sort = sort;
            this.many = many;
            Arrays.fill(row, 0);
        }

        long at(int place) {
            return place >= 0 && place < row.length ? row[place] : 0;
        }

        void put(int place, long v) {
            if (place >= 0 && place < row.length) {
                row[place] = cut(v);
            }
        }

        private long cut(long v) {
            switch (sort) {
                case 0: return (byte) v;
                case 1: return (short) v;
                case 2: return (int) v;
                default: return v;
            }
        }
    }
}
