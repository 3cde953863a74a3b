import java.lang.management.ManagementFactory;
import java.util.function.IntConsumer;

/** What the dearest calls make: all calls of a run live in one room, so that must be next to nothing. */
public final class RoomTest {
    private static int wrong = 0;

    public static void main(String[] args) {
        TopYard[] made = new TopYard[1];
        made[0] = new TopYard();
        atMost("a new object", 64 * 1024, 20, k -> made[0] = new TopYard());
        TopYard yard = fullYard();
        IntConsumer[] calls = {k -> yard.run(), k -> yard.state(3, 400, k % 8), k -> yard.fill(), k -> yard.value(),
            k -> yard.mix(1, 3), k -> yard.most(), k -> yard.explained(k % 2, 0), k -> yard.worn(0, 2), k -> yard.fault(),
            k -> yard.play(0, 1), k -> yard.pairing(255, k % 8), k -> yard.bag(0, 500, 0), k -> yard.sheet(0, k % 3, 120),
            k -> yard.copy(1, 0, 1, 1, 119), k -> yard.write(1, 400), k -> yard.read(1), k -> yard.digest(), k -> yard.smooth()};
        for (int c = 0; c < calls.length; c++) atMost("dear call " + c, 64, 100, calls[c]);
        System.out.println(wrong == 0 ? "the room suffices" : wrong + " calls make too much");
        if (wrong != 0) System.exit(1);
    }

    private static TopYard fullYard() {
        TopYard yard = new TopYard();
        for (int t = 0; t < 40; t++) yard.top(1 + t, 1 + t % 12, 1 + t % 9, t % 2 * 2 - 1, t % 2);
        for (int n = 0; n < 24; n++) yard.dent(n - 12, 12 - n, n - 10);
        for (int t = 0; t < 4; t++) yard.enter(t, t - 2, 2 - t, 9 * t, 60);
        for (int n = 0; n < 8; n++) yard.whip(n % 4, 1 + n, 100);
        for (int t = 0; t < 4; t++) yard.among(0, t);
        for (int t = 4; t < 8; t++) yard.among(1, t);
        for (int n = 0; n < 40; n++) yard.was(n % 2, 2 + n % 38, n % 3 - 1);
        Due.type(yard, "w9;b20;r6;t60;k0");
        yard.sheet(1, 2, 120);
        return yard;
    }

    /** The least over several rounds, as the machine makes things of its own now and then. */
    private static void atMost(String name, long bytes, int times, IntConsumer call) {
        com.sun.management.ThreadMXBean threads = (com.sun.management.ThreadMXBean) ManagementFactory.getThreadMXBean();
        long least = Long.MAX_VALUE;
        for (int round = 0; round < 5; round++) {
            long before = threads.getThreadAllocatedBytes(Thread.currentThread().getId());
            for (int k = 0; k < times; k++) call.accept(k);
            long made = (threads.getThreadAllocatedBytes(Thread.currentThread().getId()) - before) / times;
            least = Math.min(least, made);
        }
        if (least > bytes) {
            wrong++;
            System.out.println(name + " makes " + least + " bytes, more than " + bytes);
        }
    }
}
