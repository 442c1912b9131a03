import java.lang.management.ManagementFactory;

/** What an object makes: little in its constructor, nothing in its calls. */
public final class RoomTest {
    private static final int OBJECTS = 100;
    private static final int MOST_BYTES = 40_000;

    private RoomTest() {
    }

    private static long made() {
        return ((com.sun.management.ThreadMXBean) ManagementFactory.getThreadMXBean()).getCurrentThreadAllocatedBytes();
    }

    private static int write(HeavyFiles x, String text) {
        x.text(0, text.length());
        for (int i = 0; i < text.length(); i++) {
            x.put(0, i, text.charAt(i));
        }
        return x.court(0);
    }

    /** Every call at least once, on small and on great courts. */
    private static long callAll(HeavyFiles x, String text) {
        int n = write(x, text);
        long all = n + x.fault(0);
        for (int r = 0; r < 5; r++) {
            all += x.row(r, n) + x.lay(r, 0, 1) + x.at(r, 0) + x.mean(r);
        }
        all += x.row(5, 4) + x.copy(0, 0, 1, 0, 1) + x.suit(0, 1) + x.mark(0, 1) + x.stock(0, 9) + x.stock(1, 9);
        all += x.damp(2) + x.judge(0, 1) + x.who(0, 1, 0) + x.best(0, 3) + x.fewest(0, 5) + x.ways(0, 5) + x.sure(0);
        all += x.safe(4) + x.mixed(0, 1, 1, 2) + x.mix(0, 1) + x.turns() + x.from(0, 15, 15) + x.answer(0, 9, 9, 3);
        all += x.lender(0, 4) + x.lend(1, 0) + x.leaves(0, 5) + x.adds(0, 0) + x.when(0) + x.rule(1, 2) + x.note(0, 1);
        all += x.rules() + x.reply(4) + x.tell(4) + x.keep(0) + x.back(0) + x.on(0) + x.tear(5) + x.asked() + x.upper();
        all += x.lower() + x.count(0) + x.finding() + x.findings(1) + x.digest() + x.row(9, 9) + x.best(5, 0);
        return all;
    }

    public static void main(String[] args) {
        String[] texts = {"n9:9 s5 o3 d41 h70", "n20:15 s5 o3 f2 d41 p64 h92"};
        HeavyFiles warm = new HeavyFiles();
        long sum = made();
        for (String text : texts) {
            sum += callAll(warm, text);
        }
        HeavyFiles[] objects = new HeavyFiles[OBJECTS];
        long before = made();
        for (int i = 0; i < OBJECTS; i++) {
            objects[i] = new HeavyFiles();
        }
        long constructed = (made() - before) / OBJECTS;
        before = made();
        for (int i = 0; i < OBJECTS; i++) {
            sum += callAll(objects[i], texts[i % 2]);
        }
        long called = made() - before;
        System.out.println(constructed + " bytes by a constructor, " + called + " by all calls");
        // the measuring itself makes a little
        if (constructed > MOST_BYTES || called > 2_000 || sum == 0) {
            System.out.println("too much is made");
            System.exit(1);
        }
    }
}
