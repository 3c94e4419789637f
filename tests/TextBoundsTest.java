import java.util.NoSuchElementException;

/** The bounds that the document names for the tape, the text and its faults: the last value inside, the first outside. */
public final class TextBoundsTest {
    private static final Checks C = new Checks();
    private static final Class<IllegalArgumentException> A = IllegalArgumentException.class;
    private static final Class<NoSuchElementException> N = NoSuchElementException.class;
    private static final String ROW = "street row;";
    private static final String SEVEN = ROW + "house 1 spends 1;".repeat(7);

    public static void main(String[] args) {
        without();
        tape();
        bytesOfTheTape();
        lengthOfTheText();
        howManyBytesAreTold();
        whatIsTold();
        faultAsked();
        aFaultLeavesAllElse();
        manyLines();
        manyTokens();
        eachByte();
        eachByteBetween();
        words();
        wordsOfLaws();
        numbers();
        numbersAsTold();
        whereNoneIsTold();
        laterOnesStrike();
        emptyOnes();
        sevenHouses();
        sixWithinOneAnother();
        closedOnes();
        endOfTheText();
        aTextCutShort();
        streetFirstAndOnce();
        theFirstFault();
        theLeastKind();
        C.end("TextBoundsTest");
    }

    private static void good(String text, int lines) {
        DebtStreet x = new DebtStreet();
        C.due("street: " + text, Checks.tell(x, text), lines);
        C.due("fault(0): " + text, x.fault(0), 0);
        C.due("fault(1): " + text, x.fault(1), -1);
        C.due("count(0): " + text, x.count(0), lines);
    }

    private static void fault(String text, int kind, int place) {
        DebtStreet x = new DebtStreet();
        C.due("street: " + text, Checks.tell(x, text), -10 - kind);
        C.due("fault(0): " + text, x.fault(0), kind);
        C.due("fault(1): " + text, x.fault(1), place);
        C.due("count(0): " + text, x.count(0), 0);
        C.due("count(1): " + text, x.count(1), 0);
    }

    /** "(without one: no HOUSES)"; "No HOUSES, a row; TRAYS are MISSING; an empty tape." */
    private static void without() {
        DebtStreet x = new DebtStreet();
        C.due("new: houses", x.count(1), 0);
        C.refused("new: house(0, 0)", N, () -> x.house(0, 0));
        C.due("new: a row", x.count(8), 0);
        C.due("new: the tape", x.count(10), 0);
        C.refused("new: street(1)", A, () -> x.street(1));
        for (int t = 0; t < 4; t++) {
            int tray = t;
            C.refused("new: tray " + t + " is missing", IllegalStateException.class, () -> x.perform(tray));
        }
        // A street may be told without houses, too.
        C.due("street row;", Checks.tell(x, ROW), 1);
        C.due("still none", x.count(1), 0);
        C.refused("house(0, 0)", N, () -> x.house(0, 0));
        C.due("street ring;", Checks.tell(x, "street ring;"), 1);
        C.refused("house(0, 2)", N, () -> x.house(0, 2));
        C.due("a ring", x.count(8), 1);
    }

    /** "how many it has; NONE, and nothing changes, if there would be more than 900." */
    private static void tape() {
        DebtStreet x = new DebtStreet();
        String text = ROW + " ".repeat(860) + "limit 7; quarter 8;house 9 sp";
        C.due("of 900 bytes", text.length(), 900);
        for (int i = 1; i <= 45; i++) {
            Checks.feed(x, text.substring(20 * i - 20, 20 * i));
            C.due("after feed " + i, x.count(10), 20 * i);
        }
        for (int i = 0; i < 3; i++) {
            C.due("a full tape", x.feed(-1, -1, -1, -1, -1), -1);
            C.due("a full tape stays", x.count(10), 900);
        }
        // The place of the first fault shows that no byte was changed: "sp" at 898, where "spends" is due.
        C.due("all 900", x.street(900), -12);
        C.due("its place", x.fault(1), 898);
        C.due("empty then", x.count(10), 0);
        C.due("room again", x.feed(0x73747265, 0x65742072, 0x6f773b20, 0x20202020, 0x20202020), 20);
        C.due("and behind it", x.feed(0x6c696d69, 0x7420373b, 0x20202020, 0x20202020, 0x20202020), 40);
        C.due("both are told", x.street(40), 2);
    }

    /** "the highest of each int first": each of the twenty bytes at its own place, bits 7 too. */
    private static void bytesOfTheTape() {
        for (int place = 0; place < 20; place++) {
            for (int bad : new int[] {0, 127, 128, 255}) {
                int[] ints = {0x20202020, 0x20202020, 0x20202020, 0x20202020, 0x20202020};
                int shift = 24 - 8 * (place % 4);
                ints[place / 4] = ints[place / 4] & ~(255 << shift) | bad << shift;
                DebtStreet x = new DebtStreet();
                x.feed(ints[0], ints[1], ints[2], ints[3], ints[4]);
                C.due("byte " + bad + " at " + place, x.street(20), -11);
                C.due("its place", x.fault(1), place);
            }
        }
    }

    /** "THE STREET is a TEXT of at most 900 bytes." */
    private static void lengthOfTheText() {
        String most = ROW + "limit 5" + " ".repeat(881) + ";";
        C.due("of 900 bytes", most.length(), 900);
        good(most, 2);
        DebtStreet x = new DebtStreet();
        Checks.feed(x, most);
        C.due("without its last byte", x.street(899), -12);
        C.due("the end", x.fault(1), 899);
        fault(ROW + " ".repeat(888) + "?", 1, 899);
        fault(ROW + " ".repeat(888) + "x", 2, 899);
        good(ROW + " ".repeat(889), 1);
    }

    /** "IllegalArgumentException: n is below 0 or above what it has." */
    private static void howManyBytesAreTold() {
        DebtStreet x = new DebtStreet();
        C.refused("0 bytes, 1 told", A, () -> x.street(1));
        C.refused("0 bytes, -1 told", A, () -> x.street(-1));
        C.due("0 bytes, 0 told", x.street(0), -12);
        C.due("at 0", x.fault(1), 0);
        Checks.feed(x, ROW + "limit 9; ");
        for (int n : new int[] {21, 40, 900, 901, Integer.MAX_VALUE, -1, Integer.MIN_VALUE}) {
            C.refused("20 bytes, " + n + " told", A, () -> x.street(n));
            C.due("the tape stays", x.count(10), 20);
        }
        C.due("20 bytes, 20 told", x.street(20), 2);
        C.due("all of it", x.count(6), 9);
        Checks.feed(x, ROW + "limit 9; ");
        C.due("the first 11 alone", x.street(11), 1);
        C.due("no limit told", x.count(6), 100);
        C.due("the tape is empty", x.count(10), 0);
        C.refused("20 bytes again", A, () -> x.street(9));
        Checks.feed(x, ROW + "limit 9; ");
        C.due("none of it", x.street(0), -12);
        C.due("the tape is empty", x.count(10), 0);
    }

    /** "nothing came to the SEA, no DEEDS"; a new street, and nothing of the one before. */
    private static void whatIsTold() {
        DebtStreet x = Checks.told("street ring;house 9 spends 9 cash 9 owes 9 hedge 9;house 8 spends 8 empty;limit 3;quarter 4;"
                + "pays:0;grows:5;takes:1=2;");
        Checks.fill(x, 0, 0, -1, -1, -1);
        x.perform(0);
        C.due("deeds", x.count(9), 3);
        C.due("told", Checks.tell(x, ROW + "house 1 spends 0 cash 3 owes 2;house 0 spends 0 cash 1;"), 3);
        int[] counts = {3, 2, 0, 2, 4, 0, 100, 0, 0, 0, 0};
        for (int what = 0; what < counts.length; what++) {
            C.due("count(" + what + ")", x.count(what), counts[what]);
        }
        C.refused("no deeds", A, () -> x.undo(1));
        C.due("no hedge", x.house(0, 1), 0);
        C.due("no law of paying", x.pays(0), 2);
        C.due("no law of growing", x.grows(0, 5), 0);
        C.due("no law of taking", x.takes(0, 5), true);
        x.quarters(1);
        x.plant(0, 1);
        Checks.tell(x, ROW + "house 0 spends 2;");
        x.quarters(3);
        C.due("came to the sea", x.count(5), 6);
        Checks.tell(x, ROW + "house 0 spends 2;");
        C.due("nothing came", x.count(5), 0);
        C.due("nothing came", x.seaIn(0), 0);
        C.due("no deeds", x.count(9), 0);
    }

    /** "what 0: the FAULT (0 without, and at first), 1: its place (NONE without). NONE for others." */
    private static void faultAsked() {
        DebtStreet x = new DebtStreet();
        String[] texts = {"?", "x", ROW + "house 100", SEVEN + "house", ROW};
        int[] kinds = {1, 2, 3, 4, 0};
        int[] places = {0, 0, 17, 130, -1};
        C.due("at first", x.fault(0), 0);
        C.due("at first", x.fault(1), -1);
        for (int i = 0; i < texts.length; i++) {
            C.due("-10 less the fault", Checks.tell(x, texts[i]), kinds[i] == 0 ? 1 : -10 - kinds[i]);
            C.refused("a throw", A, () -> x.street(1));
            C.refused("a throw", A, () -> x.street(-1));
            C.due("the fault of the latest that threw nothing", x.fault(0), kinds[i]);
            C.due("its place", x.fault(1), places[i]);
            for (int what : new int[] {-1, 2, 3, 10, Integer.MAX_VALUE, Integer.MIN_VALUE}) {
                C.due("fault(" + what + ")", x.fault(what), -1);
            }
        }
    }

    /** "-10 less the FAULT (all else stays)". */
    private static void aFaultLeavesAllElse() {
        DebtStreet x = Checks.told(ROW + "house 5 spends 9 cash 6 owes 40 hedge 5;house 4 spends 4;grows:3;limit 60;quarter 2;");
        x.quarters(2);
        x.swap(0, 1);
        x.image(1);
        Checks.fill(x, 2, 1, -1);
        String[] bad = {"?", "street ring;house 1 spends 1;x", "street ring;limit 3;quarter 4;house 100", SEVEN + "house", ""};
        int[] counts = new int[10];
        for (int what = 0; what < counts.length; what++) {
            counts[what] = x.count(what);
        }
        for (String text : bad) {
            C.due("a fault: " + text, Checks.tell(x, text) < -10, true);
            for (int what = 0; what < counts.length; what++) {
                C.due("count(" + what + ") after " + text, x.count(what), counts[what]);
            }
            C.due("hedge", x.house(0, 1), 3);
            C.due("the law", x.grows(0, 1), 3);
            C.due("the tray", x.judge(2, 3), 5);
        }
        C.due("its deeds", x.undo(2), 0);
        C.due("undone", x.house(0, 0), 40);
        x.restore(1);
        C.due("the image", x.count(7), 4);
    }

    /** "how many LINES (street, too)": one, and as many as 900 bytes hold. */
    private static void manyLines() {
        good(ROW, 1);
        String most = ROW + "pays:1;".repeat(127);
        C.due("of 900 bytes", most.length(), 900);
        good(most, 128);
        good(ROW + "grows:debt;" + "limit 1;" + "takes:1=1;" + "quarter 1;" + "pays:debt;" + "house 0 spends 0;", 7);
        fault(ROW + ";", 2, 11);
        fault(ROW + " \n ;", 2, 14);
    }

    /** As many tokens as 900 bytes hold: 900 signs; a law of 442 numbers and 441 signs. */
    private static void manyTokens() {
        for (String token : new String[] {";", "(", "1;", "<>", "a+"}) {
            fault(token.repeat(900 / token.length()), 2, 0);
        }
        fault("?".repeat(900), 1, 0);
        fault(ROW + "(".repeat(889), 2, 11);
        fault(ROW + "pays:" + "(".repeat(884), 4, 22);
        for (String law : new String[] {"pays:", "grows:"}) {
            int many = 900 - ROW.length() - law.length();
            for (String sign : new String[] {"+", "-", "*"}) {
                StringBuilder sum = new StringBuilder("1");
                while (sum.length() + 3 <= many) {
                    sum.append(sign).append('1');
                }
                String filled = " ".repeat(many - 1 - sum.length());
                good(ROW + law + sum + filled + ";", 2);
                fault(ROW + law + sum + filled + "?", 1, 899);
                fault(ROW + law + sum + sign + filled, 2, 900);
            }
        }
        for (String join : new String[] {" and ", " or ", " and not ", " or not "}) {
            StringBuilder truth = new StringBuilder(ROW + "takes:1=1");
            while (truth.length() + join.length() + 4 <= 900) {
                truth.append(join).append("1=1");
            }
            good(truth + ";", 2);
            String filled = truth + " ".repeat(900 - truth.length());
            fault(filled, 2, 900);
        }
        String flags = ROW + "house 1 spends 1" + "owes 1".repeat(145);
        good(flags + ";", 2);
        fault(flags + "ow;", 2, 897);
        fault(flags, 2, 897);
    }

    /** "blanks (10, 32): words (small letters), N, the signs ; : + - * ( ) [ ] = < >"; 1: no token begins so. */
    private static void eachByte() {
        String signs = ";:+-*()[]=<>";
        for (int b = 0; b < 256; b++) {
            String text = ROW + (char) b;
            boolean token = b >= 'a' && b <= 'z' || b >= '0' && b <= '9' || signs.indexOf(b) >= 0;
            if (b == 10 || b == 32) {
                good(text, 1);
            } else {
                fault(text, token ? 2 : 1, 11);
            }
        }
    }

    /** The same between two words: two blanks alone part these. */
    private static void eachByteBetween() {
        for (int b = 0; b < 256; b++) {
            String text = "street" + (char) b + "row;";
            boolean letter = b >= 'a' && b <= 'z';
            boolean token = b >= '0' && b <= '9' || ";:+-*()[]=<>".indexOf(b) >= 0;
            if (b == 10 || b == 32) {
                good(text, 1);
            } else {
                fault(text, letter || token ? 2 : 1, letter ? 0 : 6);
            }
        }
        good("\n \nstreet\n\nrow \n ; \n", 1);
        good("street row;house1spends2cash3owes4hedge5empty;limit6;quarter7;pays:1+debt*cash;", 5);
        good("street row;house\n1\nspends\n2\ncash\n3\n;pays\n:\n(\n1\n)\n;", 3);
        good(ROW + "takes:1=1and2>1or not1<2;", 2);
        fault(ROW + "takes:1=1andnot 1=1;", 2, 20);
        fault(ROW + "takes:notnot 1=1;", 2, 17);
        fault("streetrow;", 2, 0);
        fault(ROW + "house 1 spends 1 emptyempty;", 2, 28);
    }

    /** A word as it is; one letter less, one more, another one: fault 2 at its place; a capital: fault 1. */
    private static void word(String before, String word, String behind) {
        DebtStreet x = new DebtStreet();
        C.due(before + word + behind, Checks.tell(x, before + word + behind) > 0, true);
        String less = word.substring(0, word.length() - 1);
        fault(before + less + behind, 2, before.length());
        fault(before + word.substring(1) + behind, 2, before.length());
        for (char more : new char[] {'a', 's', 'z'}) {
            fault(before + word + more + behind, 2, before.length());
            fault(before + more + word + behind, 2, before.length());
            fault(before + less + more + (more == 'z' ? "" : "z") + behind, 2, before.length());
        }
        fault(before + Character.toUpperCase(word.charAt(0)) + word.substring(1) + behind, 1, before.length());
        fault(before + word.charAt(0) + "`" + word.substring(1) + behind, 2, before.length());
    }

    private static void words() {
        word("", "street", " row;");
        word("street ", "row", ";");
        word("street ", "ring", ";");
        word(ROW, "house", " 1 spends 1;");
        word(ROW + "house 1 ", "spends", " 1;");
        String house = ROW + "house 1 spends 1 ";
        word(house, "cash", " 1;");
        word(house, "owes", " 1;");
        word(house, "hedge", " 1;");
        word(house, "empty", ";");
        word(ROW, "pays", ":1;");
        word(ROW, "grows", ":1;");
        word(ROW, "takes", ":1=1;");
        word(ROW, "limit", " 1;");
        word(ROW, "quarter", " 1;");
        word(ROW + "takes:", "not", " 1=1;");
        word(ROW + "takes:1=1 ", "and", " 1=1;");
        word(ROW + "takes:1=1 ", "or", " 1=1;");
        for (String name : new String[] {"debt", "house", "quarter", "cash", "earns", "spends"}) {
            word(ROW + "pays:", name, ";");
        }
        for (String name : new String[] {"debt", "house", "quarter"}) {
            word(ROW + "grows:", name, ";");
        }
        for (String name : new String[] {"debt", "house", "quarter", "cash", "own"}) {
            word(ROW + "takes:1=", name, ";");
        }
    }

    /** "in pays cash, earns, spends too, in takes cash, own too"; 2: "a word of another law". */
    private static void wordsOfLaws() {
        String[] all = {"debt", "house", "quarter", "cash", "earns", "spends", "own", "street", "row", "ring", "owes", "hedge",
            "empty", "pays", "grows", "takes", "limit", "not", "and", "or"};
        for (int i = 0; i < all.length; i++) {
            stands("pays:", all[i], ";", i < 6);
            stands("grows:", all[i], ";", i < 3);
            stands("takes:1<", all[i], ";", i < 4 || i == 6);
            stands("takes:", all[i], "=1;", i < 4 || i == 6);
            stands("pays:(2*", all[i], ");", i < 6);
            stands("grows:1-(", all[i], ");", i < 3);
            stands("takes:[not (", all[i], ")=1];", i < 4 || i == 6);
        }
    }

    private static void stands(String before, String word, String behind, boolean can) {
        String text = ROW + before + word + behind;
        // "takes: not = 1": not itself can stand there, what comes behind it can't.
        int place = word.equals("not") && before.equals("takes:") ? 20 : 11 + before.length();
        if (can) {
            good(text, 2);
        } else {
            fault(text, 2, place);
        }
    }

    /** "what its household EARNS, what it SPENDS, 0 to 99 each" and so on; 3: N is out of its bounds. */
    private static void number(String before, String behind, int most) {
        for (String inside : new String[] {"0", "00", "000", "1", "" + most, most < 100 ? "0" + most : "" + (most - 1)}) {
            DebtStreet x = new DebtStreet();
            C.due(before + inside + behind, Checks.tell(x, before + inside + behind) > 0, true);
        }
        int at = before.length();
        if (most < 999) {
            fault(before + (most + 1) + behind, 3, at);
            fault(before + "999" + behind, 3, at);
        }
        for (String outside : new String[] {"1000", "0000", "9999", "0001", "00000000000000000000", "4294967296", "4294967297",
            "18446744073709551617"}) {
            fault(before + outside + behind, 1, at);
        }
        for (String none : new String[] {"", "x", "-1", "+1", "(1)", "cash"}) {
            fault(before + none + behind, 2, none.isEmpty() ? at + behind.length() - behind.stripLeading().length() : at);
        }
    }

    private static void numbers() {
        String house = ROW + "house 1 spends 1 ";
        number(ROW + "house ", " spends 1;", 99);
        number(ROW + "house 1 spends ", ";", 99);
        number(house + "cash ", ";", 999);
        number(house + "owes ", ";", 999);
        number(house + "hedge ", ";", 20);
        number(ROW + "limit ", ";", 999);
        number(ROW + "quarter ", ";", 999);
        // A number of a law: of 1 to 3 digits.
        for (String n : new String[] {"0", "000", "999"}) {
            good(ROW + "pays:" + n + ";", 2);
            good(ROW + "takes:debt=" + n + ";", 2);
        }
        fault(ROW + "pays:1000;", 1, 16);
        fault(ROW + "grows:debt+0000;", 1, 22);
        fault(ROW + "takes:debt=9999;", 1, 22);
    }

    private static void numbersAsTold() {
        DebtStreet least = Checks.told("street row;house 0 spends 0 cash 0 owes 0 hedge 0;limit 0;quarter 0;");
        DebtStreet most = Checks.told("street row;house 99 spends 99 cash 999 owes 999 hedge 20;limit 999;quarter 999;");
        int[] wantMost = {99, 99, 999, 0};
        for (int what = 0; what < 4; what++) {
            C.due("least household(0, " + what + ")", least.household(0, what), 0);
            C.due("most household(0, " + what + ")", most.household(0, what), wantMost[what]);
        }
        C.due("least debt", least.house(0, 0), 0);
        C.due("most debt", most.house(0, 0), 999);
        C.due("least hedge", least.house(0, 1), 0);
        C.due("most hedge", most.house(0, 1), 20);
        C.due("least limit", least.count(6), 0);
        C.due("most limit", most.count(6), 999);
        C.due("least quarter", least.count(7), 0);
        C.due("most quarter", most.count(7), 999);
        for (int n = 0; n <= 999; n += n < 12 || n > 985 ? 1 : 7) {
            String threes = "00" + n;
            DebtStreet x = Checks.told(ROW + "house 0 spends 0 cash " + threes.substring(threes.length() - 3) + " owes " + n
                    + ";grows:" + n + ";");
            C.due("cash " + n, x.household(0, 2), n);
            C.due("owes " + n, x.house(0, 0), n);
            C.due("of a law: " + n, x.grows(0, 1), n);
        }
    }

    /** "CASH 0 to 999 (0)", "DEBT 0 to 999 (0)", "HEDGE ... (0)", "limit: 0 to 999 (100)", "quarter ... (0)". */
    private static void whereNoneIsTold() {
        DebtStreet x = Checks.told(ROW + "house 7 spends 8;");
        C.due("cash", x.household(0, 2), 0);
        C.due("not gone", x.household(0, 3), 0);
        C.due("debt", x.house(0, 0), 0);
        C.due("hedge", x.house(0, 1), 0);
        C.due("limit", x.count(6), 100);
        C.due("quarter", x.count(7), 0);
        C.due("all paid that can be", x.pays(0), 0);
        C.due("0 grows", x.grows(0, 999_999), 0);
        C.due("always taken", Checks.told("street ring;house 1 spends 1;").takes(0, 999_999), true);
        DebtStreet one = Checks.told(ROW + "house 7 spends 8 owes 5;house 7 spends 8 hedge 5;house 7 spends 8 cash 5;");
        for (int h = 0; h < 3; h++) {
            C.due("debt of " + h, one.house(h, 0), h == 0 ? 5 : 0);
            C.due("hedge of " + h, one.house(h, 1), h == 1 ? 5 : 0);
            C.due("cash of " + h, one.household(h, 2), h == 2 ? 5 : 0);
        }
    }

    /** "of a word the later one strikes"; "Later ones of pays, grows, takes, limit, quarter strike." */
    private static void laterOnesStrike() {
        DebtStreet x = Checks.told("street ring;limit 5;quarter 6;pays:7;grows:8;takes:debt=9;"
                + "house 1 spends 1 cash 9 owes 9 hedge 9 cash 999 owes 999 hedge 20 cash 0 owes 2 hedge 0;"
                + "house 1 spends 1 cash 1 owes 1 cash 0 cash 30 owes 40;limit 50;limit 60;quarter 70;quarter 0;"
                + "pays:80;pays:9;grows:100;grows:11;takes:debt=1;takes:debt=12;");
        C.due("cash", x.household(0, 2), 0);
        C.due("owes", x.house(0, 0), 2);
        C.due("hedge", x.house(0, 1), 0);
        C.due("cash", x.household(1, 2), 30);
        C.due("owes", x.house(1, 0), 40);
        C.due("limit", x.count(6), 60);
        C.due("quarter", x.count(7), 0);
        C.due("pays", x.pays(1), 9);
        C.due("grows", x.grows(0, 5), 11);
        C.due("takes 12", x.takes(0, 12), true);
        C.due("takes 9", x.takes(0, 9), false);
        C.due("takes 1", x.takes(0, 1), false);
        // The earlier one has its bounds all the same.
        fault(ROW + "limit 1000;limit 5;", 1, 17);
        fault(ROW + "house 1 spends 1 hedge 21 hedge 1;", 3, 34);
        fault(ROW + "pays:own;pays:1;", 2, 16);
    }

    /** "empty: the household is GONE (CASH 0)": whatever cash is told, ahead of it or behind. */
    private static void emptyOnes() {
        DebtStreet x = Checks.told(ROW + "house 5 spends 6 empty;house 5 spends 6 cash 7 empty;house 5 spends 6 empty cash 7;"
                + "house 5 spends 6 cash 8 empty cash 7;house 5 spends 6 empty empty owes 3 hedge 4;house 5 spends 6 cash 7;");
        for (int h = 0; h < 6; h++) {
            C.due("gone: " + h, x.household(h, 3), h < 5 ? 1 : 0);
            C.due("cash of " + h, x.household(h, 2), h < 5 ? 0 : 7);
            C.due("earns: " + h, x.household(h, 0), 5);
            C.due("spends: " + h, x.household(h, 1), 6);
        }
        C.due("the house's debt", x.house(4, 0), 3);
        C.due("the house's hedge", x.house(4, 1), 4);
        C.due("gone", x.count(2), 5);
    }

    /** "numbered from 0 on, 7 at most"; 4: "the first TOKEN of an 8th house". */
    private static void sevenHouses() {
        good(SEVEN, 8);
        DebtStreet x = Checks.told("street ring;" + "house 1 spends 1;".repeat(7));
        C.due("seven", x.count(1), 7);
        C.due("house 6", x.house(6, 2), 0);
        C.refused("house 7", N, () -> x.house(7, 2));
        C.refused("house -1", N, () -> x.house(-1, 2));
        fault(SEVEN + "house 1 spends 1;", 4, 130);
        fault(SEVEN + "house", 4, 130);
        fault(SEVEN + "house 100", 4, 130);
        fault(SEVEN + "\n house ?", 4, 132);
        fault(SEVEN + "limit 5;pays:1;house 1 spends 1;", 4, 145);
        good(SEVEN + "limit 5;pays:house;", 10);
        for (int many = 0; many <= 7; many++) {
            DebtStreet y = Checks.told("street row;limit 3;" + "house 1 spends 1;".repeat(many));
            C.due("houses", y.count(1), many);
            int k = many;
            C.refused("one more", N, () -> y.household(k, 0));
            if (many > 0) {
                C.due("the last", y.house(many - 1, 2), -1);
            }
        }
    }

    /** "At most six of not [ ( within one another": all rows of six of these, and of seven. */
    private static void sixWithinOneAnother() {
        for (int outer = 0; outer <= 7; outer++) {
            for (int kinds = 0; kinds < 1 << outer; kinds++) {
                nested(outer, kinds, 6 - outer);
                nested(outer, kinds, 7 - outer);
            }
        }
        for (String law : new String[] {"pays:", "grows:", "pays:1+", "grows:2*", "pays:1-1*"}) {
            good(ROW + law + "((((((1))))));", 2);
            fault(ROW + law + "(((((((1)))))));", 4, 17 + law.length());
            fault(ROW + law + "(((((((", 4, 17 + law.length());
        }
        fault(ROW + "takes:not not not not not not 1=(1);", 4, 43);
        fault(ROW + "takes:[[[[[[1=1 and not 1=1]]]]]];", 4, 31);
        fault(ROW + "takes:[[[[[[1=1 or [1=1]]]]]]];", 4, 30);
        fault(ROW + "takes:[[[[[[1=1+1*(1)]]]]]];", 4, 29);
    }

    /** A truth within so many of not and [ (a bit set: [), its first number within so many (. */
    private static void nested(int outer, int kinds, int parentheses) {
        if (parentheses < 0) {
            return;
        }
        StringBuilder text = new StringBuilder(ROW + "takes:");
        int seventh = -1;
        for (int i = 0; i < outer + parentheses; i++) {
            seventh = i == 6 ? text.length() : seventh;
            text.append(i >= outer ? "(" : (kinds >> i & 1) == 1 ? "[" : "not ");
        }
        text.append('1').append(")".repeat(parentheses)).append("=1");
        text.append("]".repeat(Integer.bitCount(kinds))).append(';');
        if (outer + parentheses <= 6) {
            good(text.toString(), 2);
        } else {
            fault(text.toString(), 4, seventh);
        }
    }

    /** What is closed, or whose unit has ended, counts no more. */
    private static void closedOnes() {
        String six = "[[[[[[1=1]]]]]]";
        good(ROW + "takes:" + six + " and " + six + " or " + six + " and not 1=1;", 2);
        String nots = "not not not not not not 1=1";
        good(ROW + "takes:" + nots + " and " + nots + " or " + nots + " or [(1)=1];", 2);
        good(ROW + "takes:[not [not [not 1=1] and not [1=1]] or not [not [(1)=1]]] and not [[[[[1=1]]]]];", 2);
        good(ROW + "takes:((((((1))))))=((((((1)))))) or ((((((1))))))<1;", 2);
        good(ROW + "pays:((((((1))))))*((((((1))))))-(((((1)+(2))+(3))+(4))+(5));", 2);
        good(ROW + "pays:((((((1))))));grows:((((((1))))));", 3);
        fault(ROW + "takes:" + six + " and [" + six + "];", 4, 43);
    }

    /** 2: "(the end: the text's length ...)", wherever the text breaks off; with blanks at its end, too. */
    private static void endOfTheText() {
        String[] tokens = {"street", "ring", ";", "house", "1", "spends", "2", "cash", "3", "owes", "4", "hedge", "5", "empty", ";",
            "pays", ":", "debt", "+", "(", "cash", "-", "1", ")", "*", "2", ";", "grows", ":", "0", ";", "takes", ":", "not", "[",
            "1", "=", "2", "and", "3", "<", "4", "or", "5", ">", "own", "]", ";", "limit", "6", ";", "quarter", "7", ";"};
        StringBuilder text = new StringBuilder();
        int lines = 0;
        for (int i = 0; i <= tokens.length; i++) {
            boolean whole = i > 0 && tokens[i - 1].equals(";");
            lines += whole ? 1 : 0;
            for (String end : new String[] {"", " ", "\n  \n"}) {
                if (whole) {
                    good(text + end, lines);
                } else {
                    fault(text + end, 2, text.length() + end.length());
                }
            }
            if (i < tokens.length) {
                text.append(i == 0 ? "" : " ").append(tokens[i]);
            }
        }
    }

    /** What stands on the tape behind the first n bytes is none of the text. */
    private static void aTextCutShort() {
        String text = "street row;limit 123;?";
        int[] want = new int[text.length() + 1];
        int[] places = new int[text.length() + 1];
        for (int n = 0; n <= text.length(); n++) {
            want[n] = -12;
            places[n] = n;
        }
        for (int n = 1; n < 6; n++) {
            places[n] = 0;
        }
        places[8] = 7;
        places[9] = 7;
        want[11] = 1;
        for (int n = 12; n < 16; n++) {
            places[n] = 11;
        }
        want[21] = 2;
        want[22] = -11;
        places[22] = 21;
        for (int n = 0; n <= text.length(); n++) {
            DebtStreet x = new DebtStreet();
            Checks.feed(x, text);
            C.due("street(" + n + ")", x.street(n), want[n]);
            C.due("its place", x.fault(1), want[n] > 0 ? -1 : places[n]);
            C.due("the tape is empty", x.count(10), 0);
        }
        // A number that the end cuts to three digits is one.
        DebtStreet x = new DebtStreet();
        Checks.feed(x, "street row;limit 12345;");
        C.due("four digits", x.street(21), -11);
        Checks.feed(x, "street row;limit 12345;");
        C.due("three digits", x.street(20), -12);
        C.due("then the end", x.fault(1), 20);
    }

    /** 2: "street must be told first, and once". */
    private static void streetFirstAndOnce() {
        fault("limit 5;" + ROW, 2, 0);
        fault("house 1 spends 1;street row;", 2, 0);
        fault(";" + ROW, 2, 0);
        fault("ring street;", 2, 0);
        fault(ROW + ROW, 2, 11);
        fault(ROW + "limit 5;street ring;", 2, 19);
        fault("street street row;", 2, 7);
        fault("street ring row;", 2, 12);
        fault("street row ring;", 2, 11);
        fault("street row limit 5;", 2, 11);
        fault(ROW + "row;", 2, 11);
        fault(ROW + "ring;", 2, 11);
    }

    /** "FAULTS, the first along the text". */
    private static void theFirstFault() {
        fault(ROW + "limit;?", 2, 16);
        fault(ROW + "limit ?;limit;", 1, 17);
        fault(ROW + "house 100 spends ?;", 3, 17);
        fault(ROW + "house 99 spends 100 cash 1000;", 3, 27);
        fault(ROW + "house 1 spends 1 cash 1000 hedge 21;", 1, 33);
        fault(ROW + "house 1 spends 1 hedge 21 cash 1000;", 3, 34);
        fault(SEVEN + "house 100 spends 1000 ?", 4, 130);
        fault(SEVEN + "limit 1000;house 1 spends 1;", 1, 136);
        fault(SEVEN + "takes:not not not not not not not ?;", 4, 160);
        fault(ROW + "takes:not not not not not not ? not 1=1;", 1, 41);
        fault(ROW + "pays:(((((((?", 4, 22);
        fault(ROW + "pays:((((((?(", 1, 22);
        fault("? street row;", 1, 0);
        fault("street row ?", 1, 11);
        fault("street ? row;", 1, 7);
    }

    /** "of one TOKEN the least kind". */
    private static void theLeastKind() {
        // 1 and 2, 1 and 3: no token, where none can stand, above its bounds.
        fault(ROW + "1000;", 1, 11);
        fault(ROW + "limit 5 1000;", 1, 19);
        fault(ROW + "house 1000 spends 1;", 1, 17);
        // 2 and 3: a number out of any bounds where none can stand.
        fault(ROW + "999;", 2, 11);
        fault(ROW + "house 1 999;", 2, 19);
        fault(ROW + "house 1 spends 1 100;", 2, 28);
        fault(ROW + "house 1 spends 1 hedge 20 21;", 2, 37);
        // 2 and 4: an 8th house, a seventh one, where it can't stand.
        fault(SEVEN + "limit house 1 spends 1;", 2, 136);
        fault(SEVEN + "pays:1 house 1 spends 1;", 2, 137);
        fault(ROW + "takes:((((((not 1))))))=1;", 2, 23);
        fault(ROW + "takes:(((((([1=1]))))))=1;", 2, 23);
        fault(ROW + "pays:((((((1(", 2, 23);
        fault(ROW + "pays:(((((([1];", 2, 22);
        fault(ROW + "takes:[[[[[[1 not", 2, 25);
        fault(ROW + "takes:not not not not not not and", 2, 41);
        fault(ROW + "takes:not not not not not not 1=1(", 2, 44);
    }
}
