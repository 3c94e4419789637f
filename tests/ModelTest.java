import java.lang.reflect.InvocationTargetException;
import java.lang.reflect.Method;
import java.util.Random;
import java.util.TreeMap;

/** Runs of calls by draws of a fixed seed: DebtStreet and the model answer the same, throws too. */
public final class ModelTest {
    private static final String[] HINTS = {"street", "row", "ring", "house", "spends", "cash", "owes", "hedge",
        "empty", "pays", "grows", "takes", "limit", "quarter", "debt", "earns", "own", "not", "and", "or", "0", "7",
        "20", "21", "99", "100", "999", "1000", "00012", ";", ":", "+", "-", "*", "(", ")", "[", "]", "=", "<", ">",
        "?", "H", "\t", "\u00e9", "x", "rin", "rings", ".", "0123"};
    private static final Method[] FACE = sorted();

    private final Random random;
    private final Checks checks;
    private DebtStreet x;
    private Model m;
    private int calls;

    private ModelTest(Checks checks, long seed) {
        this.checks = checks;
        random = new Random(seed);
    }

    public static void main(String[] args) throws ReflectiveOperationException {
        int runs = args.length > 0 ? Integer.parseInt(args[0]) : 150;
        long from = args.length > 1 ? Long.parseLong(args[1]) : 0;
        Checks checks = new Checks();
        for (long seed = from; seed < from + runs; seed++) {
            new ModelTest(checks, seed).run();
        }
        checks.end("ModelTest");
    }

    private static Method[] sorted() {
        TreeMap<String, Method> all = new TreeMap<>();
        for (Method f : DebtStreet.class.getDeclaredMethods()) {
            if (java.lang.reflect.Modifier.isPublic(f.getModifiers())) {
                all.put(f.getName(), f);
            }
        }
        return all.values().toArray(new Method[0]);
    }

    private void run() throws ReflectiveOperationException {
        x = new DebtStreet();
        m = new Model();
        // A text takes up to 56 calls, a question 21: an object is used for 512 at most.
        while (calls < 400) {
            if (random.nextInt(50) == 0 || calls == 0 && random.nextInt(10) > 0) {
                tell();
            } else {
                ask(FACE[random.nextInt(FACE.length)]);
            }
        }
        for (Method f : FACE) {
            if (calls <= 490) {
                ask(f);
            }
        }
    }

    /** Tells a text, in one of three with a change. */
    private void tell() throws ReflectiveOperationException {
        String text = text();
        if (random.nextInt(m.count(1) == 0 ? 9 : 2) == 0) {
            text = changed(text);
        }
        if (text.length() > 900) {
            text = text.substring(0, 900);
        }
        Method feed = method("feed");
        for (int i = 0; i < text.length(); i += 20) {
            int[] ints = new int[5];
            for (int k = 0; k < 20; k++) {
                int c = i + k < text.length() ? text.charAt(i + k) & 255 : 32;
                ints[k / 4] = ints[k / 4] << 8 | c;
            }
            both(feed, ints[0], ints[1], ints[2], ints[3], ints[4]);
        }
        both(method("street"), text.length());
        both(method("fault"), 0);
        both(method("fault"), 1);
        for (int h = 0; h < 7; h++) {
            both(method("household"), h, 2);
        }
    }

    private Method method(String name) {
        for (Method f : FACE) {
            if (f.getName().equals(name)) {
                return f;
            }
        }
        throw new IllegalStateException(name);
    }

    private String text() {
        StringBuilder t = new StringBuilder("street " + (random.nextBoolean() ? "ring" : "row") + ";");
        int most = random.nextInt(4) == 0 ? 7 : 4;
        int houses = random.nextInt(20) == 0 ? 0 : 1 + random.nextInt(most);
        boolean hard = random.nextBoolean();
        for (int i = 0; i < houses; i++) {
            t.append(blank()).append("house ").append(random.nextInt(100) / (hard ? 4 : 1));
            t.append(" spends ").append(random.nextInt(100) / (hard ? 2 : 4));
            for (int k = random.nextInt(4); k > 0; k--) {
                switch (random.nextInt(8)) {
                    case 0: t.append(" hedge ").append(random.nextInt(21)); break;
                    case 1: t.append(" empty"); break;
                    case 2:
                    case 3:
                    case 4: t.append(" cash ").append(random.nextInt(random.nextBoolean() ? 1000 : 60)); break;
                    default: t.append(" owes ").append(random.nextInt(random.nextInt(4) == 0 ? 1000 : 99)); break;
                }
            }
            t.append(blank()).append(';');
        }
        for (int k = random.nextInt(5); k > 0; k--) {
            switch (random.nextInt(6)) {
                case 0: t.append("limit ").append(random.nextInt(random.nextBoolean() ? 1000 : 90)); break;
                case 1: t.append("quarter ").append(random.nextInt(1000)); break;
                case 2: t.append("pays:").append(sum(2, "debt house quarter cash earns spends")); break;
                case 3: t.append("grows:").append(sum(2, "debt house quarter")); break;
                default: t.append("takes:").append(truth(3)); break;
            }
            t.append(';').append(blank());
        }
        return t.toString();
    }

    private String blank() {
        return random.nextInt(5) == 0 ? "\n " : random.nextBoolean() ? " " : "";
    }

    private String truth(int depth) {
        String words = "debt house quarter cash own";
        switch (depth == 0 ? 9 : random.nextInt(7)) {
            case 0: return "not " + (random.nextBoolean() ? "[" + truth(depth - 1) + "]" : truth(0));
            case 1: return "[" + truth(depth - 1) + "]";
            case 2: return truth(depth - 1) + " or " + truth(depth - 1);
            case 3: return truth(depth - 1) + " and " + truth(depth - 1);
            default: return sum(1, words) + "=<>".charAt(random.nextInt(3)) + sum(1, words);
        }
    }

    private String sum(int depth, String words) {
        String[] all = words.split(" ");
        switch (depth == 0 ? 8 + random.nextInt(2) : random.nextInt(10)) {
            case 0:
            case 1: return sum(depth - 1, words) + "+" + sum(depth - 1, words);
            case 2:
            case 3: return sum(depth - 1, words) + " - " + sum(depth - 1, words);
            case 4: return sum(depth - 1, words) + "*" + sum(depth - 1, words);
            case 5: return "(" + sum(depth - 1, words) + ")";
            case 8: return "" + random.nextInt(random.nextInt(4) == 0 ? 1000 : 12);
            default: return all[random.nextInt(all.length)];
        }
    }

    /** A text with a token or a sign put in, taken out or doubled, or cut short. */
    private String changed(String text) {
        StringBuilder t = new StringBuilder(text);
        for (int k = 1 + random.nextInt(2); k > 0; k--) {
            int at = random.nextInt(t.length() + 1);
            int to = Math.min(t.length(), at + random.nextInt(9));
            switch (random.nextInt(6)) {
                case 0: t.delete(at, to); break;
                case 1: t.insert(at, t.substring(at, to)); break;
                case 2: t.setLength(Math.max(1, at)); break;
                case 3: t.insert(at, "not [((not not [".substring(random.nextInt(12))); break;
                case 4: t.insert(at, " "); break;
                default: t.insert(at, HINTS[random.nextInt(HINTS.length)]); break;
            }
        }
        return t.toString();
    }

    private void ask(Method f) throws ReflectiveOperationException {
        String name = f.getName();
        if (name.equals("feed") && random.nextInt(3) > 0 || name.equals("street") && random.nextInt(8) > 0) {
            return;
        }
        if ("seen hidden look".contains(name) && random.nextInt(4) > 0) {
            lookBack();
        }
        Object[] with = new Object[f.getParameterCount()];
        for (int i = 0; i < with.length; i++) {
            with[i] = random.nextInt(12) == 0 ? number() : fitting(name, i);
        }
        if (name.equals("write")) {
            with[2] = told();
        }
        if (name.startsWith("order") && m.count(1) > 5 && random.nextInt(10) > 0) {
            return;
        }
        both(f, with);
    }

    /** A number that the document allows, mostly. */
    private int fitting(String name, int i) {
        if ("judge perform seen hidden look tray write copy".contains(name) && i == 0) {
            return random.nextInt(4);
        }
        switch (name + i) {
            case "debtIn1":
            case "cashIn1":
            case "seaIn0": return random.nextInt(random.nextBoolean() ? 201 : 12);
            case "quarters0": return 1 + random.nextInt(random.nextInt(8) == 0 ? 99 : 4);
            case "plant1": return random.nextInt(21);
            case "payOff1":
            case "gift2": return 1 + random.nextInt(random.nextBoolean() ? 40 : 999);
            case "undo0": return 1 + random.nextInt(3);
            case "year0": return random.nextInt();
            case "year1": return 1 + random.nextInt(30);
            case "tray1": return random.nextInt(4);
            case "tray2": return random.nextInt(random.nextInt(5) == 0 ? 31 : 6);
            case "write1": return random.nextInt(5);
            case "house1":
            case "household1":
            case "judge1":
            case "image0":
            case "restore0":
            case "hedges2": return random.nextInt(4);
            case "count0": return random.nextInt(12);
            case "order1": return random.nextInt(5) == 0 ? 0 : 9 + random.nextInt(9);
            case "hidden2": return random.nextInt(9);
            case "takes1":
            case "grows1": return random.nextInt(5) == 0 ? 999_990 + random.nextInt(20) : random.nextInt(200);
            default: break;
        }
        boolean house = i == 0 && "house household pays grows takes swap gift plant payOff debtIn cashIn ruinIn burden "
                .concat("bestHouse hedges saves worth").contains(name)
                || i == 1 && "swap gift seen hidden look copy".contains(name);
        return house ? random.nextInt(Math.max(1, m.count(1))) : 1 + random.nextInt(20);
    }

    /** Lays a tray with what could have been seen. */
    private void lookBack() throws ReflectiveOperationException {
        int many = 1 + random.nextInt(3);
        for (int tray = 0; tray < 4; tray++) {
            both(method("tray"), tray, 3, many);
            if (random.nextBoolean()) {
                both(method("copy"), tray, random.nextInt(Math.max(1, m.count(1))));
            }
            for (int i = 0; i < many; i++) {
                if (random.nextBoolean()) {
                    both(method("write"), tray, i, random.nextInt(3) > 0 ? -1L : (long) random.nextInt(60));
                }
            }
        }
    }

    private int number() {
        switch (random.nextInt(12)) {
            case 0: return random.nextInt();
            case 1: return random.nextInt(35) - 3;
            case 2: return random.nextInt(1100) - 10;
            case 3: return 195 + random.nextInt(9);
            default: return random.nextInt(8) - (random.nextInt(6) == 0 ? 2 : 0);
        }
    }

    private long told() {
        switch (random.nextInt(10)) {
            case 0: return random.nextLong();
            case 1:
            case 2: return -1;
            case 3: return random.nextInt(70);
            case 4: return 100 + random.nextInt(11);
            case 5: return 200 + random.nextInt(11);
            case 6: return 300 + random.nextInt(101);
            default: return 10 * random.nextInt(3) + random.nextInt(4) + 100 * random.nextInt(4);
        }
    }

    private void both(Method f, Object... with) throws ReflectiveOperationException {
        calls++;
        Method g = Model.class.getMethod(f.getName(), f.getParameterTypes());
        String a = answer(f, x, with);
        String b = answer(g, m, with);
        String call = f.getName() + java.util.Arrays.toString(with);
        checks.due(a.equals(b) ? call : call + ": " + a + " but the model " + b, a.equals(b), true);
    }

    private static String answer(Method f, Object on, Object[] with) throws ReflectiveOperationException {
        try {
            return "" + f.invoke(on, with);
        } catch (InvocationTargetException e) {
            return e.getCause().getClass().getName();
        }
    }
}
