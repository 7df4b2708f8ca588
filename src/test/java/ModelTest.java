import java.util.Arrays;

/** Drawn runs of 512 calls, each answer compared with a plain model over the Java library. */
public final class ModelTest {
  private static final int RUNS = 400;
  private static final int CALLS = 512;
  private static final String[] NAMES = {"feed", "end", "use", "iv", "number", "beside", "seal",
      "open", "back", "box", "count", "numbered"};
  private static final int NUMBER = 4;
  private static final int SEAL = 6;
  private static final int OPEN = 7;
  private static final int BACK = 8;
  // How often each call comes, in the order of the names.
  private static final int[] WEIGHTS = {30, 12, 10, 6, 8, 4, 14, 14, 14, 12, 12, 4};

  public static void main(String[] args) {
    int openings = 0;
    for (int run = 0; run < RUNS; run++) {
      openings += openingsOf(run, new Check.Draw(run));
    }
    Check.due("runs in which openings are common", openings > RUNS ? 1 : 0, 1);
    System.out.println(openings + " openings");
    Check.finish();
  }

  private static int openingsOf(int run, Check.Draw draw) {
    SealBox x = new SealBox();
    Model model = new Model();
    int call = 0;
    for (int i = 0; i < CALLS; i++) {
      call = nextCall(call, draw);
      int[] a = arguments(call, model, draw);
      long n = drawnNumber(model, draw);
      String got = answer(x, call, a, n);
      String want = model.answer(NAMES[call], a, n);
      if (!got.equals(want)) {
        Check.tell("run " + run + ", call " + i + ": " + NAMES[call] + Arrays.toString(a) + " " + n
            + " answered " + got + ", due is " + want);
        return 0;
      }
    }
    Check.due("run " + run + ", blocks", x.count(4), model.counts[4]);
    Check.due("run " + run + ", box", Check.box(x), model.box);
    return model.counts[6];
  }

  /** Sealings are often followed by number, back and open, or an opening would be rare. */
  private static int nextCall(int last, Check.Draw draw) {
    if (draw.below(2) == 0) {
      switch (last) {
        case SEAL: return NUMBER;
        case NUMBER: return BACK;
        case BACK: return OPEN;
        default: break;
      }
    }
    return drawnCall(draw);
  }

  private static int drawnCall(Check.Draw draw) {
    int total = 0;
    for (int weight : WEIGHTS) {
      total += weight;
    }
    int drawn = draw.below(total);
    int call = 0;
    while (drawn >= WEIGHTS[call]) {
      drawn -= WEIGHTS[call];
      call++;
    }
    return call;
  }

  /** Mostly the number that the last record was sealed with, so that it opens. */
  private static long drawnNumber(Model model, Check.Draw draw) {
    switch (draw.below(8)) {
      case 0: return Long.MAX_VALUE - draw.below(2);
      case 1: return draw.number();
      default: return model.number - 1;
    }
  }

  private static int[] arguments(int call, Model model, Check.Draw draw) {
    int[] a = new int[5];
    for (int k = 0; k < 5; k++) {
      a[k] = draw.below(4) == 0 ? -draw.below(2) : (int) draw.number();
    }
    switch (NAMES[call]) {
      case "end":
        int[] ends = {12, 16, 32, draw.below(model.tape.length + 3) - 1, model.tape.length};
        a[0] = ends[draw.below(5)];
        break;
      case "use":
        a[0] = model.tape.length == 16 ? 0 : draw.below(5) - 1;
        break;
      case "back":
        a[0] = draw.below(3) > 0 ? -1 : draw.below(model.box.length + 3) - 2;
        break;
      case "box":
        a[0] = draw.below(model.box.length + 3) - 1;
        break;
      case "count":
        a[0] = draw.below(10) - 1;
        break;
      default:
        break;
    }
    return a;
  }

  private static String answer(SealBox x, int call, int[] a, long n) {
    try {
      switch (NAMES[call]) {
        case "feed": return "" + x.feed(a[0], a[1], a[2], a[3], a[4]);
        case "end": return "" + x.end(a[0]);
        case "use": x.use(a[0]); return "";
        case "iv": x.iv(); return "";
        case "number": x.number(n); return "";
        case "beside": return "" + x.beside();
        case "seal": return "" + x.seal();
        case "open": return "" + x.open();
        case "back": return "" + x.back(a[0], a[1]);
        case "box": return "" + x.box(a[0]);
        case "count": return "" + x.count(a[0]);
        default: return "" + x.numbered();
      }
    } catch (RuntimeException e) {
      return e.getClass().getSimpleName();
    }
  }

  /** The document's state in the plainest rows; answers exceptions by their names. */
  private static final class Model {
    byte[] tape = new byte[0];
    byte[] box = new byte[0];
    byte[] beside = new byte[0];
    byte[] iv = new byte[12];
    byte[] key = new byte[0];
    long number = 0;
    // By the document's numbers; those of the rows are not held here.
    final int[] counts = {0, 0, 0, -1, 0, 0, 0, 0};

    String answer(String call, int[] a, long n) {
      switch (call) {
        case "feed": return feed(a);
        case "end": return end(a[0]);
        case "use": return use(a[0]);
        case "iv": return iv();
        case "number": number = n; return "";
        case "beside": beside = taken(); return "" + beside.length;
        case "seal": return seal();
        case "open": return open();
        case "back": return back(a[0], a[1]);
        case "box": return box(a[0]);
        case "count": return "" + count(a[0]);
        default: return "" + number;
      }
    }

    private byte[] taken() {
      byte[] bytes = tape;
      tape = new byte[0];
      return bytes;
    }

    private String feed(int[] words) {
      byte[] added = new byte[20];
      for (int i = 0; i < 20; i++) {
        added[i] = (byte) (words[i / 4] >>> 24 - 8 * (i % 4));
      }
      tape = Check.joined(tape, added);
      return "" + tape.length;
    }

    private String end(int n) {
      if (n < 0 || n > tape.length) {
        return "IllegalArgumentException";
      }
      tape = Arrays.copyOf(tape, n);
      return "" + n;
    }

    private String use(int cipher) {
      if (cipher < 0 || cipher > 2) {
        return "NoSuchElementException";
      }
      if (tape.length != (cipher == 0 ? 16 : 32)) {
        return "IllegalArgumentException";
      }
      key = taken();
      counts[3] = cipher;
      counts[4] += cipher == 2 ? 0 : 1;
      number = 0;
      return "";
    }

    private String iv() {
      if (tape.length != 12) {
        return "IllegalArgumentException";
      }
      iv = taken();
      number = 0;
      return "";
    }

    private String seal() {
      if (counts[3] == -1) {
        return "IllegalStateException";
      }
      counts[4] += 1 + blocks(tape.length);
      counts[5]++;
      box = Library.sealed(counts[3], key, Library.nonce(iv, number), beside, taken());
      number++;
      return "" + box.length;
    }

    private String open() {
      if (counts[3] == -1) {
        return "IllegalStateException";
      }
      byte[] text = Library.opened(counts[3], key, Library.nonce(iv, number), beside, tape);
      counts[4] += tape.length < 16 ? 0 : 1;
      if (text == null) {
        counts[7]++;
        return "UnsupportedOperationException";
      }
      counts[4] += blocks(text.length);
      counts[6]++;
      box = text;
      taken();
      number++;
      return "" + box.length;
    }

    private int blocks(int n) {
      int size = counts[3] == 2 ? 64 : 16;
      return (n + size - 1) / size;
    }

    private String back(int at, int with) {
      if (at < -1 || at >= box.length) {
        return "IndexOutOfBoundsException";
      }
      tape = box.clone();
      if (at >= 0) {
        tape[at] ^= (byte) with;
      }
      return "" + tape.length;
    }

    private String box(int i) {
      return i < 0 || i >= box.length ? "IndexOutOfBoundsException" : "" + (box[i] & 255);
    }

    private int count(int what) {
      switch (what) {
        case 0: return tape.length;
        case 1: return box.length;
        case 2: return beside.length;
        case 3: case 4: case 5: case 6: case 7: return counts[what];
        default: return -1;
      }
    }
  }
}
