import java.lang.management.ManagementFactory;

/** The dearest calls of a run stay far within the room that a run has: 7.3 million fields and elements. */
public final class RoomTest {
  private static final int CALLS = 512;
  private static final long MOST_BYTES = 1 << 25;

  public static void main(String[] args) {
    run();
    long before = bytes();
    run();
    long made = bytes() - before;
    System.out.println("a run of " + CALLS + " calls makes " + made + " bytes");
    System.exit(made <= MOST_BYTES ? 0 : 1);
  }

  private static long bytes() {
    com.sun.management.ThreadMXBean threads = (com.sun.management.ThreadMXBean) ManagementFactory.getThreadMXBean();
    return threads.getThreadAllocatedBytes(Thread.currentThread().getId());
  }

  private static void run() {
    TurnedBeam x = new TurnedBeam();
    x.hall(5, 5);
    for (int i = 0; i < 25; i++) {
      x.square(i, i % 2 == 0 ? 52 : 10, i / 3 % 2);
    }
    x.feed(0x6D2A632B72L, 5);
    x.text(0);
    x.sheet(0, 8, 0);
    for (int i = 31; i < CALLS; i += 16) {
      x.image();
      x.let(i % 20);
      x.let(i % 19);
      x.let(i % 18);
      x.back(-1);
      x.had();
      x.throne(12, 3, 0);
      x.throne(24, 3, 1);
      x.odds(-1 >>> 7, 2, 100, 0);
      x.fits(-1 >>> 7, 0);
      x.tells(-1 >>> 7, 0, 1);
      x.longest(1);
      x.days(200);
      x.round(i % 20);
      x.voice(3, 3, i);
      x.restore();
    }
  }
}
