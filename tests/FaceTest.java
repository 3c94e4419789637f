import java.lang.reflect.Constructor;
import java.lang.reflect.Field;
import java.lang.reflect.Method;
import java.lang.reflect.Modifier;
import java.util.Arrays;
import java.util.TreeSet;

/** The public face as the document gives it, and nothing else to be seen of the class. */
public final class FaceTest {
    private static final String N = "NoSuchElementException";
    private static final String A = "IllegalArgumentException";
    private static final String S = "IllegalStateException";
    private static final String I = "IndexOutOfBoundsException";

    public static void main(String[] args) {
        Checks c = new Checks();
        TreeSet<String> want = new TreeSet<>();
        add(want, "int feed(int,int,int,int,int)");
        add(want, "int street(int)", A);
        add(want, "int fault(int)");
        add(want, "int house(int,int)", N, A);
        add(want, "int household(int,int)", N, A);
        add(want, "int pays(int)", N, S);
        add(want, "int grows(int,int)", N, A);
        add(want, "boolean takes(int,int)", N, A);
        add(want, "int swap(int,int)");
        add(want, "int gift(int,int,int)");
        add(want, "int plant(int,int)", N, A);
        add(want, "int payOff(int,int)");
        add(want, "int quarters(int)", A);
        add(want, "int undo(int)", A);
        add(want, "int judge(int,int)", N, S, A);
        add(want, "int perform(int)", N, S);
        add(want, "int year(int,int)", A);
        add(want, "int debtIn(int,int)", N, A);
        add(want, "int cashIn(int,int)", N, A);
        add(want, "int ruinIn(int)", N);
        add(want, "int lost(int)", A);
        add(want, "int clear()");
        add(want, "int seaIn(int)", A);
        add(want, "long burden(int,int)", N, A);
        add(want, "int heaviest(int)", A);
        add(want, "long paid(int)", A);
        add(want, "int order(int,int)", A);
        add(want, "int orders(int)", A);
        add(want, "int bestSwap(int)", A);
        add(want, "int wouldSwap(int)", A);
        add(want, "int bestHouse(int,int)", N, A);
        add(want, "int hedges(int,int,int)", N, A, S);
        add(want, "int bestHedge(int)", A);
        add(want, "int saves(int,int)", N, A, S);
        add(want, "int leastLimit(int)", A);
        add(want, "int worth(int,int)", N, A, S);
        add(want, "int pillar(int)", A);
        add(want, "int seen(int,int)", N, S, A);
        add(want, "int hidden(int,int,int)", N, S, A);
        add(want, "int look(int,int)", N, S, A);
        add(want, "void tray(int,int,int)", N, A);
        add(want, "long write(int,int,long)", N, S, I);
        add(want, "int copy(int,int)", N, S);
        add(want, "void image(int)", N);
        add(want, "void restore(int)", N, S);
        add(want, "int count(int)");

        TreeSet<String> got = new TreeSet<>();
        TreeSet<String> names = new TreeSet<>();
        for (Method m : DebtStreet.class.getDeclaredMethods()) {
            if (Modifier.isPublic(m.getModifiers())) {
                got.add(face(m));
                names.add(m.getName());
            }
        }
        if (!got.equals(want)) {
            System.out.println("the face is " + got);
        }
        c.due("the public methods are the document's", got.equals(want), true);

        checkHidden(c, names);
        c.due("public final", DebtStreet.class.getModifiers(), Modifier.PUBLIC | Modifier.FINAL);
        c.due("NONE", DebtStreet.NONE, -1);
        c.end("FaceTest");
    }

    private static void checkHidden(Checks c, TreeSet<String> names) {
        for (Method m : DebtStreet.class.getDeclaredMethods()) {
            boolean shown = Modifier.isPublic(m.getModifiers());
            c.due(m + " is public or private", shown || Modifier.isPrivate(m.getModifiers()), true);
            c.due(m + " is private under a public name", !shown && names.contains(m.getName()), false);
        }
        for (Field f : DebtStreet.class.getDeclaredFields()) {
            boolean shown = !Modifier.isPrivate(f.getModifiers());
            c.due(f + " is shown", shown, f.getName().equals("NONE"));
            boolean loose = Modifier.isStatic(f.getModifiers()) && !Modifier.isFinal(f.getModifiers());
            c.due(f + " is static and not final", loose, false);
        }
        for (Class<?> inner : DebtStreet.class.getDeclaredClasses()) {
            int is = inner.getModifiers();
            c.due(inner + " is static and hidden",
                    Modifier.isStatic(is) && !Modifier.isPublic(is) && !Modifier.isProtected(is), true);
            c.due(inner + " has at most twenty fields", inner.getDeclaredFields().length <= 20, true);
        }
        c.due("constructors", DebtStreet.class.getDeclaredConstructors().length, 1);
        for (Constructor<?> made : DebtStreet.class.getDeclaredConstructors()) {
            c.due("public constructor", Modifier.isPublic(made.getModifiers()), true);
            c.due("of nothing", made.getParameterCount(), 0);
        }
    }

    private static void add(TreeSet<String> all, String head, String... thrown) {
        Arrays.sort(thrown);
        all.add(head + Arrays.toString(thrown));
    }

    private static String face(Method m) {
        StringBuilder head = new StringBuilder(m.getReturnType().getName() + " " + m.getName() + "(");
        for (Class<?> p : m.getParameterTypes()) {
            head.append(head.charAt(head.length() - 1) == '(' ? "" : ",").append(p.getName());
        }
        String[] thrown = new String[m.getExceptionTypes().length];
        for (int i = 0; i < thrown.length; i++) {
            thrown[i] = m.getExceptionTypes()[i].getSimpleName();
        }
        Arrays.sort(thrown);
        return head.append(")").append(Arrays.toString(thrown)).toString();
    }
}
