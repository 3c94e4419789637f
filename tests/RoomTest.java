import com.sun.management.ThreadMXBean;
import java.lang.management.ManagementFactory;

/** What up to 512 calls of the dearest sorts make stays far below the room that all calls of a run have. */
public final class RoomTest {
    private static final Checks C = new Checks();
    private static final ThreadMXBean BEAN = (ThreadMXBean) ManagementFactory.getThreadMXBean();
    // 600,000 objects of 16 bytes and 7.3 million fields of 4 would be some 38 million bytes.
    private static final long ROOM = 6_000_000;

    private interface Call {
        void of(DebtStreet x, int i);
    }

    public static void main(String[] args) {
        String seven = "street ring;limit 30;grows:debt-20;takes:own<debt+9;house 9 spends 12 owes 25;"
                + "house 20 spends 3 owes 9;house 1 spends 5 cash 9 owes 3;house 5 spends 5 owes 19;house 7 spends 8;"
                + "house 2 spends 2 owes 30;house 9 spends 0 cash 50;";
        ask("orders", seven, 60, (x, i) -> {
            x.plant(i % 7, i % 21);
            x.orders(5 + i % 3);
        });
        ask("saves", seven, 480, (x, i) -> x.saves(6, 20));
        ask("hedges", seven, 480, (x, i) -> x.hedges(6, 20, 1));
        ask("look", seven, 480, (x, i) -> {
            if (i == 0) {
                Checks.fill(x, 0, 3, -1, -1, -1, -1, -1, -1, -1, -1, -1, -1, -1, -1);
            }
            x.look(0, i % 7);
        });
        ask("deeds", seven, 480, (x, i) -> x.year(i, 30));
        ask("images", seven, 240, (x, i) -> {
            x.image(i % 3);
            x.restore(i % 3);
        });
        ask("trays", seven, 480, (x, i) -> x.tray(i % 4, 3, 30));
        ask("texts", seven, 18, (x, i) -> Checks.tell(x, seven));
        ask("short texts", seven, 240, (x, i) -> Checks.tell(x, "street row;pays:1;"));
        long before = BEAN.getThreadAllocatedBytes(Thread.currentThread().getId());
        for (int i = 0; i < 20; i++) {
            new DebtStreet();
        }
        long made = (BEAN.getThreadAllocatedBytes(Thread.currentThread().getId()) - before) / 20;
        C.due("a new object: " + made + " bytes", made < 100_000, true);
        C.end("RoomTest");
    }

    private static void ask(String name, String text, int times, Call call) {
        DebtStreet x = Checks.told(text);
        long before = BEAN.getThreadAllocatedBytes(Thread.currentThread().getId());
        for (int i = 0; i < times; i++) {
            call.of(x, i);
        }
        long made = BEAN.getThreadAllocatedBytes(Thread.currentThread().getId()) - before;
        C.due(name + ": " + made + " bytes", made < ROOM, true);
    }
}
