import com.sun.management.ThreadMXBean;
import java.lang.management.ManagementFactory;

/** All calls of a run live in one room, so an object takes little of it, and a call that throws nothing takes none. */
public final class RoomTest {
    private static final Check C = new Check();
    private static final ThreadMXBean BEAN = (ThreadMXBean) ManagementFactory.getThreadMXBean();

    private static long taken() {
        return BEAN.getThreadAllocatedBytes(Thread.currentThread().getId());
    }

    public static void main(String[] args) {
        // what the machine takes for itself as it meets the classes is not to be counted
        useAll(Check.loaded("blue 4 2 6 rule 0 trump 1 glow 1 fade 1 revive seed 1;"));
        taken();
        long before = taken();
        FadingTrumps x = new FadingTrumps();
        long made = taken() - before;
        C.due("an object of " + made + " bytes is small", Check.flag(made < 200000), 1);
        int[][] text = textOf("blue 4 2 6 rule 0 trump 1 glow 1 fade 1 revive seed 1;");
        before = taken();
        for (int i = 0; i < 50; i++) {
            for (int[] w : text) {
                x.feed(w[0], w[1], w[2], w[3], w[4]);
            }
            x.load(54);
            useAll(x);
        }
        long used = taken() - before;
        C.due("calls that take " + used + " bytes take none", Check.flag(used < 2000), 1);
        C.due("the text was read", x.size(2), 6);
        C.end();
    }

    private static int[][] textOf(String text) {
        int[][] all = new int[(text.length() + 19) / 20][];
        for (int i = 0; i < all.length; i++) {
            all[i] = Check.words(text, 20 * i);
        }
        return all;
    }

    private static void useAll(FadingTrumps x) {
        x.saveSnapshot();
        // "many not(card=1 or suit<2)and legal=1   "
        x.feed(0x6d616e79, 0x206e6f74, 0x28636172, 0x643d3120, 0x6f722073);
        x.feed(0x7569743c, 0x3229616e, 0x64206c65, 0x67616c3d, 0x31202020);
        C.due("the query holds for some", Check.flag(x.query(40) > 0), 1);
        x.sure();
        x.sureCard();
        x.tell(0, 1);
        x.setTrump(2);
        x.setRule(2);
        x.setFade(1);
        x.setRevive(true);
        x.play(x.inHand(0, 0));
        x.auto(52);
        x.deal(5);
        x.ranking(0);
        x.masters(1);
        x.isMaster(3);
        x.format(1);
        x.undo();
        x.meanRank(0);
        x.share(1);
        x.restoreSnapshot();
    }
}
