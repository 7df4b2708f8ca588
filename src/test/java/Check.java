import java.util.Arrays;

/** What the tests have in common; each of them ends with finish. */
final class Check {
  private static int checks = 0;
  private static int wrong = 0;

  private Check() {}

  interface Call {
    void make();
  }

  static void due(String what, long got, long want) {
    checks++;
    if (got != want) {
      tell(what + " answered " + got + ", due is " + want);
    }
  }

  static void due(String what, byte[] got, byte[] want) {
    checks++;
    if (!Arrays.equals(got, want)) {
      tell(what + " answered " + Arrays.toString(got) + ", due is " + Arrays.toString(want));
    }
  }

  static void dueThrow(String what, Class<? extends RuntimeException> want, Call call) {
    checks++;
    Class<?> got = null;
    try {
      call.make();
    } catch (RuntimeException e) {
      got = e.getClass();
    }
    if (got != want) {
      tell(what + " threw " + got + ", due is " + want);
    }
  }

  static void tell(String fault) {
    wrong++;
    System.out.println(fault);
  }

  static void finish() {
    System.out.println(checks + " checks, " + wrong + " wrong");
    if (wrong != 0 || checks == 0) {
      System.exit(1);
    }
  }

  /** Brings these bytes to the tape, which must be empty; just 65,536 find room too. */
  static void tape(SealBox x, byte[] bytes) {
    int rest = bytes.length % 20;
    if (rest > 0) {
      feed(x, Arrays.copyOf(bytes, 20), 0);
      x.end(rest);
    }
    for (int i = rest; i < bytes.length; i += 20) {
      feed(x, bytes, i);
    }
  }

  private static void feed(SealBox x, byte[] bytes, int at) {
    x.feed(word(bytes, at), word(bytes, at + 4), word(bytes, at + 8), word(bytes, at + 12),
        word(bytes, at + 16));
  }

  private static int word(byte[] bytes, int at) {
    return bytes[at] << 24 | (bytes[at + 1] & 255) << 16 | (bytes[at + 2] & 255) << 8
        | bytes[at + 3] & 255;
  }

  static byte[] box(SealBox x) {
    byte[] bytes = new byte[x.count(1)];
    for (int i = 0; i < bytes.length; i++) {
      bytes[i] = (byte) x.box(i);
    }
    return bytes;
  }

  static SealBox ready(int cipher, byte[] key, byte[] iv, byte[] beside) {
    SealBox x = new SealBox();
    tape(x, key);
    x.use(cipher);
    tape(x, iv);
    x.iv();
    tape(x, beside);
    x.beside();
    return x;
  }

  static byte[] hex(String text) {
    String digits = text.replace(" ", "");
    byte[] bytes = new byte[digits.length() / 2];
    for (int i = 0; i < bytes.length; i++) {
      bytes[i] = (byte) Integer.parseInt(digits.substring(2 * i, 2 * i + 2), 16);
    }
    return bytes;
  }

  static byte[] joined(byte[] first, byte[] second) {
    byte[] bytes = Arrays.copyOf(first, first.length + second.length);
    System.arraycopy(second, 0, bytes, first.length, second.length);
    return bytes;
  }

  /** Numbers that look drawn but are the same in each run. */
  static final class Draw {
    private long state;

    Draw(long seed) {
      state = seed;
    }

    int below(int bound) {
      return (int) Long.remainderUnsigned(number() >>> 16, bound);
    }

    long number() {
      state = state * 6364136223846793005L + 1442695040888963407L;
      long mixed = (state ^ state >>> 31) * 0x9e3779b97f4a7c15L;
      return mixed ^ mixed >>> 29;
    }

    byte[] bytes(int n) {
      byte[] bytes = new byte[n];
      for (int i = 0; i < n; i++) {
        bytes[i] = (byte) number();
      }
      return bytes;
    }
  }
}
