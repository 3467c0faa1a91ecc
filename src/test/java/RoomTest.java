import java.lang.management.ManagementFactory;

/** What 512 of the dearest calls make, in bytes: all calls of a run have one room of some 7.3 million elements. */
public final class RoomTest {
    private static final com.sun.management.ThreadMXBean BEAN = (com.sun.management.ThreadMXBean) ManagementFactory.getThreadMXBean();

    private static long made() { return BEAN.getThreadAllocatedBytes(Thread.currentThread().getId()); }

    private static String full() {
        StringBuilder wall = new StringBuilder("wall 8 4;source 9;");
        for (int k = 0; k < 6; k++) wall.append("feeler " + (5 * k) + " " + (k + 1) + ";");
        for (int k = 0; k < 6; k++) wall.append("tale 0 1 " + k % 2 + " 1 " + k / 3 + " 1;");
        return wall.toString();
    }

    private static void ask(DeafWall x, int k) {
        x.state(0, 0, 40, 100);
        x.after(0, 0, 0);
        x.drawn(0, k, 60, 0);
        x.tune(0, 8, 255, 40);
        x.play(0, 5, 0, true);
        x.most(0, 8, true);
        x.duet(0, 0, 1, 4, true);
        x.arm(0, 0, 5, 12, true);
        x.code(0);
        x.ways(0, 20);
        x.fits(0, 0, 8, 3);
        x.brick(0, 0, 31, 8, 255);
        x.loss(0, 0, 31, false);
        x.shade(0, k % 9);
        x.keys(0, 0, false);
        x.dried(0, 5, 8);
        x.loud(0, 8, true);
        x.hold(0, 5, 9, 2);
        x.rhyme(0, 0, 1, 3);
        x.odds(0, 0, 8, 7, true);
        x.few(0, 0, 8, true);
        x.reach(0, 5, true);
    }

    public static void main(String[] args) {
        DeafWall x = Check.with(full(), "play 9;".repeat(40), "not 0 19;".repeat(8));
        long before = made();
        for (int k = 0; k < 512; k++) ask(x, k);
        long asked = made() - before;
        Check.due("512 of each question make " + asked + " bytes", asked < 100000, true);
        before = made();
        for (int k = 0; k < 512; k++) { x.text(k % 3, 0); x.image(k % 3); x.again(k % 3); }
        long told = made() - before;
        Check.due("512 texts and images make " + told + " bytes", told < 1000000, true);
        before = made();
        for (int k = 0; k < 512; k++) x = new DeafWall();
        long news = made() - before;
        Check.due("512 objects make " + news + " bytes", news < 8000000, true);
        System.out.println("bytes: questions " + asked + ", texts and images " + told + ", objects " + news);
        Check.finish("RoomTest");
    }
}
