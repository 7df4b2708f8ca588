import java.lang.management.ManagementFactory;

/** An object's 512 dearest calls make few rows: they all live in one room. */
public final class RoomTest {
  private static final long MOST_BYTES = 600_000;

  public static void main(String[] args) {
    com.sun.management.ThreadMXBean threads =
        (com.sun.management.ThreadMXBean) ManagementFactory.getThreadMXBean();
    int[] feeds = {0, 100, 170, 300, 480};
    for (int cipher = 0; cipher < 3; cipher++) {
      for (int n : feeds) {
        long before = threads.getCurrentThreadAllocatedBytes();
        run(cipher, n);
        long made = threads.getCurrentThreadAllocatedBytes() - before;
        Check.due("cipher " + cipher + ", " + n + " feeds made " + made + " bytes; too many",
            made > MOST_BYTES ? 1 : 0, 0);
      }
    }
    Check.finish();
  }

  private static void run(int cipher, int feeds) {
    SealBox x = Check.ready(cipher, new byte[cipher == 0 ? 16 : 32], new byte[12], new byte[20]);
    int calls = 12;
    for (int i = 0; i < feeds; i++) {
      x.feed(i, i, i, i, i);
      calls++;
    }
    while (calls < 510) {
      x.seal();
      x.back(-1, 0);
      x.number(x.numbered() - 1);
      x.beside();
      x.back(-1, 0);
      calls += 6;
    }
  }
}
