import java.util.Arrays;
import java.util.NoSuchElementException;

/** Each promise by itself: ordinary inputs, the nearest edges and wrong inputs. */
public final class PromisesTest {
  private static final byte[] KEY_16 = new Check.Draw(16).bytes(16);
  private static final byte[] KEY_32 = new Check.Draw(32).bytes(32);
  private static final byte[] IV = new Check.Draw(12).bytes(12);
  private static final byte[] BESIDE = new Check.Draw(33).bytes(33);
  private static final byte[] TEXT = new Check.Draw(70).bytes(70);
  private static final byte[] NOTHING = new byte[0];

  public static void main(String[] args) {
    newObject();
    feed();
    end();
    use();
    iv();
    number();
    beside();
    seal();
    open();
    openThatFails();
    openTooShort();
    back();
    box();
    count();
    blocks();
    numbered();
    objectsApart();
    Check.finish();
  }

  private static void counts(String when, SealBox x, int... want) {
    for (int what = 0; what < want.length; what++) {
      Check.due(when + ", count(" + what + ")", x.count(what), want[what]);
    }
  }

  private static byte[] key(int cipher) {
    return cipher == 0 ? KEY_16 : KEY_32;
  }

  private static byte[] sealed(int cipher, byte[] iv, long number, byte[] beside, byte[] text) {
    return Library.sealed(cipher, key(cipher), Library.nonce(iv, number), beside, text);
  }

  /** The tape's bytes, which only a sealing shows; the object is one that ready made. */
  private static void dueTape(String what, SealBox x, byte[] want) {
    x.number(5);
    x.seal();
    Check.due(what, Check.box(x), sealed(x.count(3), IV, 5, BESIDE, want));
  }

  private static void newObject() {
    SealBox x = new SealBox();
    counts("new", x, 0, 0, 0, -1, 0, 0, 0, 0);
    Check.due("new numbered()", x.numbered(), 0);
    Check.tape(x, KEY_16);
    x.use(0);
    Check.tape(x, TEXT);
    x.seal();
    Check.due("seal with IV and BESIDE of a new object", Check.box(x),
        sealed(0, new byte[12], 0, NOTHING, TEXT));
  }

  private static void feed() {
    SealBox x = Check.ready(2, KEY_32, IV, BESIDE);
    Check.due("feed", x.feed(0x01020304, 0x05060708, 0x80ff7f00, -1, Integer.MIN_VALUE), 20);
    Check.due("feed", x.feed(0, 1, 2, 3, 4), 40);
    dueTape("what was fed", x, Check.hex("01020304 05060708 80ff7f00 ffffffff 80000000"
        + "00000000 00000001 00000002 00000003 00000004"));
  }

  private static void end() {
    SealBox x = Check.ready(0, KEY_16, IV, BESIDE);
    Check.due("end(0) of nothing", x.end(0), 0);
    Check.dueThrow("end(1) of nothing", IllegalArgumentException.class, () -> x.end(1));
    Check.tape(x, TEXT);
    Check.dueThrow("end(71)", IllegalArgumentException.class, () -> x.end(71));
    Check.dueThrow("end(-1)", IllegalArgumentException.class, () -> x.end(-1));
    Check.dueThrow("end(least)", IllegalArgumentException.class, () -> x.end(Integer.MIN_VALUE));
    Check.dueThrow("end(most)", IllegalArgumentException.class, () -> x.end(Integer.MAX_VALUE));
    Check.due("tape after wrong ends", x.count(0), 70);
    Check.due("end(70)", x.end(70), 70);
    Check.due("end(11)", x.end(11), 11);
    Check.dueThrow("end(12) behind end(11)", IllegalArgumentException.class, () -> x.end(12));
    Check.due("feed behind end", x.feed(-1, -1, -1, -1, -1), 31);
    byte[] want = Arrays.copyOf(TEXT, 31);
    Arrays.fill(want, 11, 31, (byte) -1);
    dueTape("the tape behind end and feed", x, want);
    x.feed(1, 2, 3, 4, 5);
    Check.due("end(0)", x.end(0), 0);
    Check.due("tape behind end(0)", x.count(0), 0);
  }

  private static void use() {
    int[] none = {-1, 3, Integer.MIN_VALUE, Integer.MAX_VALUE};
    for (int cipher : none) {
      SealBox x = new SealBox();
      Check.dueThrow("use(" + cipher + ")", NoSuchElementException.class, () -> x.use(cipher));
      Check.tape(x, KEY_32);
      Check.dueThrow("use(" + cipher + ")", NoSuchElementException.class, () -> x.use(cipher));
      counts("use(" + cipher + ")", x, 32, 0, 0, -1, 0, 0, 0, 0);
    }
    for (int cipher = 0; cipher < 3; cipher++) {
      useOf(cipher);
    }
    useAgain();
  }

  private static void useOf(int cipher) {
    int due = key(cipher).length;
    int[] lengths = {0, 1, 12, 15, 16, 17, 20, 24, 31, 32, 33, 40, 64};
    for (int n : lengths) {
      SealBox x = new SealBox();
      Check.tape(x, new byte[n]);
      if (n != due) {
        Check.dueThrow("use(" + cipher + ") with " + n, IllegalArgumentException.class,
            () -> x.use(cipher));
        counts("use(" + cipher + ") with " + n, x, n, 0, 0, -1, 0, 0, 0, 0);
      } else {
        x.use(cipher);
        counts("use(" + cipher + ")", x, 0, 0, 0, cipher, cipher == 2 ? 0 : 1, 0, 0, 0);
      }
    }
  }

  private static void useAgain() {
    SealBox x = Check.ready(2, KEY_32, IV, BESIDE);
    Check.tape(x, TEXT);
    x.seal();
    x.number(9);
    byte[] record = Check.box(x);
    Check.tape(x, TEXT);
    Check.dueThrow("use(0) with 70", IllegalArgumentException.class, () -> x.use(0));
    Check.due("numbered() after a use that threw", x.numbered(), 9);
    Check.due("the cipher after a use that threw", x.count(3), 2);
    dueTape("key, IV, BESIDE and tape after a use that threw", x, TEXT);
    x.back(-1, 0);
    x.end(16);
    byte[] key = Arrays.copyOf(Check.box(x), 16);
    byte[] before = Check.box(x);
    x.use(0);
    Check.due("BOX after use", Check.box(x), before);
    Check.due("numbered() after use", x.numbered(), 0);
    Check.tape(x, TEXT);
    x.seal();
    Check.due("IV and BESIDE after use", Check.box(x),
        Library.sealed(0, key, IV, BESIDE, TEXT));
    Check.tape(x, KEY_32);
    x.use(2);
    Check.tape(x, record);
    Check.due("open with the first key again", x.open(), 70);
    Check.due("what it opens to", Check.box(x), TEXT);
  }

  private static void iv() {
    int[] lengths = {0, 11, 13, 16, 20};
    for (int n : lengths) {
      SealBox x = Check.ready(0, KEY_16, IV, BESIDE);
      Check.tape(x, new byte[n]);
      x.number(3);
      Check.dueThrow("iv() of " + n, IllegalArgumentException.class, x::iv);
      Check.due("tape after iv() of " + n, x.count(0), n);
      Check.due("numbered() after iv() of " + n, x.numbered(), 3);
      dueTape("IV after iv() of " + n, x, new byte[n]);
    }
    SealBox x = Check.ready(1, KEY_32, IV, BESIDE);
    x.number(77);
    byte[] other = new Check.Draw(5).bytes(12);
    Check.tape(x, other);
    x.iv();
    Check.due("numbered() after iv()", x.numbered(), 0);
    counts("after iv()", x, 0, 0, 33, 1, 1, 0, 0, 0);
    Check.tape(x, TEXT);
    x.seal();
    Check.due("seal with the new IV", Check.box(x), sealed(1, other, 0, BESIDE, TEXT));
  }

  private static void number() {
    long[] numbers = {0, 1, -1, 255, 256, 1L << 32, 0x0123456789abcdefL, Long.MAX_VALUE,
        Long.MIN_VALUE, 0xffffffffL};
    for (int cipher = 0; cipher < 3; cipher++) {
      for (long n : numbers) {
        SealBox x = Check.ready(cipher, key(cipher), IV, BESIDE);
        x.number(n);
        Check.due("numbered() after number", x.numbered(), n);
        Check.tape(x, TEXT);
        x.seal();
        Check.due("seal with number " + n, Check.box(x), sealed(cipher, IV, n, BESIDE, TEXT));
        Check.due("numbered() after seal with " + n, x.numbered(), n + 1);
        x.back(-1, 0);
        x.number(n);
        x.open();
        Check.due("numbered() after open with " + n, x.numbered(), n + 1);
      }
    }
  }

  private static void beside() {
    SealBox x = Check.ready(2, KEY_32, IV, BESIDE);
    Check.due("beside() of nothing", x.beside(), 0);
    Check.due("BESIDE's length", x.count(2), 0);
    Check.tape(x, TEXT);
    Check.due("beside()", x.beside(), 70);
    counts("beside()", x, 0, 0, 70, 2, 0, 0, 0, 0);
    Check.tape(x, IV);
    x.seal();
    Check.due("seal with it", Check.box(x), sealed(2, IV, 0, TEXT, IV));
    Check.tape(x, IV);
    x.seal();
    Check.due("it stays for the next", Check.box(x), sealed(2, IV, 1, TEXT, IV));
    x.back(-1, 0);
    x.number(1);
    x.open();
    Check.due("it stays behind open", x.count(2), 70);
    SealBox fresh = new SealBox();
    fresh.feed(1, 2, 3, 4, 5);
    Check.due("beside() with none in use", fresh.beside(), 20);
  }

  private static void seal() {
    SealBox none = new SealBox();
    none.feed(1, 2, 3, 4, 5);
    Check.dueThrow("seal() with none in use", IllegalStateException.class, none::seal);
    counts("seal() with none in use", none, 20, 0, 0, -1, 0, 0, 0, 0);
    Check.due("numbered() after it", none.numbered(), 0);
    for (int cipher = 0; cipher < 3; cipher++) {
      SealBox x = Check.ready(cipher, key(cipher), IV, BESIDE);
      Check.tape(x, TEXT);
      Check.due("seal()", x.seal(), 86);
      Check.due("BOX", Check.box(x), sealed(cipher, IV, 0, BESIDE, TEXT));
      Check.due("tape after seal()", x.count(0), 0);
      Check.due("seal() of nothing", x.seal(), 16);
      Check.due("BOX", Check.box(x), sealed(cipher, IV, 1, BESIDE, NOTHING));
      x.number(Long.MAX_VALUE);
      x.seal();
      Check.due("numbered() behind the greatest", x.numbered(), Long.MIN_VALUE);
      x.seal();
      Check.due("BOX with the least", Check.box(x),
          sealed(cipher, IV, Long.MIN_VALUE, BESIDE, NOTHING));
      Check.due("sealings", x.count(5), 4);
    }
  }

  private static void open() {
    SealBox none = new SealBox();
    Check.dueThrow("open() with none in use", IllegalStateException.class, none::open);
    none.feed(1, 2, 3, 4, 5);
    Check.dueThrow("open() with none in use", IllegalStateException.class, none::open);
    counts("open() with none in use", none, 20, 0, 0, -1, 0, 0, 0, 0);
    for (int cipher = 0; cipher < 3; cipher++) {
      SealBox x = Check.ready(cipher, key(cipher), IV, BESIDE);
      x.number(-1);
      Check.tape(x, sealed(cipher, IV, -1, BESIDE, TEXT));
      Check.due("open()", x.open(), 70);
      Check.due("BOX", Check.box(x), TEXT);
      Check.due("tape after open()", x.count(0), 0);
      Check.due("numbered() after open()", x.numbered(), 0);
      Check.tape(x, sealed(cipher, IV, 0, BESIDE, NOTHING));
      Check.due("open() of a tag alone", x.open(), 0);
      Check.due("BOX's length", x.count(1), 0);
      x.number(Long.MAX_VALUE);
      Check.tape(x, sealed(cipher, IV, Long.MAX_VALUE, BESIDE, TEXT));
      x.open();
      Check.due("numbered() behind the greatest", x.numbered(), Long.MIN_VALUE);
      Check.due("openings", x.count(6), 3);
      Check.due("openings that failed", x.count(7), 0);
    }
  }

  private static void openThatFails() {
    for (int cipher = 0; cipher < 3; cipher++) {
      byte[] record = sealed(cipher, IV, 7, BESIDE, TEXT);
      SealBox x = Check.ready(cipher, key(cipher), IV, BESIDE);
      Check.tape(x, TEXT);
      x.number(7);
      x.seal();
      int blocks = x.count(4);
      for (int at = 0; at < record.length; at++) {
        x.number(7);
        x.back(at, 1 << at % 8);
        Check.dueThrow("open() with byte " + at + " changed", UnsupportedOperationException.class,
            x::open);
      }
      counts("openings that failed", x, 86, 86, 33, cipher, blocks + 86, 1, 0, 86);
      Check.due("numbered() after them", x.numbered(), 7);
      Check.due("BOX after them", Check.box(x), record);
      record[85] ^= (byte) (1 << 85 % 8);
      dueTape("the tape after them", x, record);
      otherCircumstances(cipher);
    }
  }

  private static void otherCircumstances(int cipher) {
    SealBox x = Check.ready(cipher, key(cipher), IV, BESIDE);
    Check.tape(x, sealed(cipher, IV, 7, BESIDE, TEXT));
    x.number(8);
    Check.dueThrow("open() with another number", UnsupportedOperationException.class, x::open);
    x.number(7 | 1L << 63);
    Check.dueThrow("open() with another number", UnsupportedOperationException.class, x::open);
    x.number(7);
    Check.due("open() of the tape that stayed", x.open(), 70);
    SealBox y = Check.ready(cipher, key(cipher), IV, Arrays.copyOf(BESIDE, 32));
    Check.tape(y, sealed(cipher, IV, 0, BESIDE, TEXT));
    Check.dueThrow("open() with another BESIDE", UnsupportedOperationException.class, y::open);
  }

  private static void openTooShort() {
    for (int cipher = 0; cipher < 3; cipher++) {
      SealBox x = Check.ready(cipher, key(cipher), IV, BESIDE);
      int blocks = x.count(4);
      x.number(4);
      for (int n = 0; n < 16; n++) {
        x.end(0);
        Check.tape(x, new byte[n]);
        Check.dueThrow("open() of " + n, UnsupportedOperationException.class, x::open);
        counts("open() of " + n, x, n, 0, 33, cipher, blocks, 0, 0, n + 1);
      }
      Check.due("numbered() after them", x.numbered(), 4);
      x.end(0);
      Check.tape(x, new byte[16]);
      Check.dueThrow("open() of 16", UnsupportedOperationException.class, x::open);
      counts("open() of 16", x, 16, 0, 33, cipher, blocks + 1, 0, 0, 17);
    }
  }

  private static void back() {
    SealBox x = new SealBox();
    Check.due("back(-1) of nothing", x.back(-1, 5), 0);
    Check.dueThrow("back(0) of nothing", IndexOutOfBoundsException.class, () -> x.back(0, 0));
    x.feed(1, 2, 3, 4, 5);
    Check.due("back(-1) of nothing takes the tape's place", x.back(-1, 5), 0);
    Check.due("tape behind it", x.count(0), 0);
    SealBox y = Check.ready(1, KEY_32, IV, BESIDE);
    Check.tape(y, TEXT);
    y.seal();
    byte[] record = Check.box(y);
    Check.tape(y, IV);
    int[] wrong = {-2, 86, Integer.MIN_VALUE, Integer.MAX_VALUE};
    for (int at : wrong) {
      Check.dueThrow("back(" + at + ")", IndexOutOfBoundsException.class, () -> y.back(at, 1));
      Check.due("tape after back(" + at + ")", y.count(0), 12);
    }
    int[][] changes = {{-1, 255}, {0, 1}, {85, 0x80}, {40, 256}, {41, -1}, {42, 0x7fffff00 | 3}};
    for (int[] change : changes) {
      byte[] want = record.clone();
      if (change[0] >= 0) {
        want[change[0]] ^= (byte) change[1];
      }
      Check.due("back", y.back(change[0], change[1]), 86);
      Check.due("BOX after back", Check.box(y), record);
      Check.due("tape after back", y.count(0), 86);
      y.number(5);
      y.seal();
      Check.due("what back brought", Check.box(y), sealed(1, IV, 5, BESIDE, want));
      Check.tape(y, sealed(1, IV, 6, BESIDE, record));
      y.open();
    }
  }

  private static void box() {
    SealBox x = Check.ready(0, KEY_16, IV, BESIDE);
    Check.dueThrow("box(0) of nothing", IndexOutOfBoundsException.class, () -> x.box(0));
    Check.tape(x, TEXT);
    x.seal();
    byte[] record = sealed(0, IV, 0, BESIDE, TEXT);
    for (int i = 0; i < record.length; i++) {
      Check.due("box(" + i + ")", x.box(i), record[i] & 255);
    }
    int[] wrong = {-1, 86, Integer.MIN_VALUE, Integer.MAX_VALUE};
    for (int i : wrong) {
      Check.dueThrow("box(" + i + ")", IndexOutOfBoundsException.class, () -> x.box(i));
    }
    x.seal();
    Check.dueThrow("box(16) of a shorter BOX", IndexOutOfBoundsException.class, () -> x.box(16));
  }

  private static void count() {
    SealBox x = Check.ready(0, KEY_16, IV, BESIDE);
    Check.tape(x, TEXT);
    x.seal();
    x.seal();
    x.back(0, 1);
    Check.dueThrow("open()", UnsupportedOperationException.class, x::open);
    x.back(-1, 0);
    x.number(1);
    x.open();
    Check.tape(x, sealed(0, IV, 2, BESIDE, TEXT));
    x.open();
    x.feed(1, 2, 3, 4, 5);
    counts("count", x, 20, 70, 33, 0, 1 + 6 + 1 + 1 + 1 + 6, 2, 2, 1);
    int[] others = {-1, 8, 9, 256, Integer.MIN_VALUE, Integer.MAX_VALUE};
    for (int what : others) {
      Check.due("count(" + what + ")", x.count(what), -1);
    }
  }

  private static void blocks() {
    int[] lengths = {0, 1, 15, 16, 17, 32, 33, 63, 64, 65, 128, 129};
    for (int cipher = 0; cipher < 3; cipher++) {
      int size = cipher == 2 ? 64 : 16;
      SealBox x = Check.ready(cipher, key(cipher), IV, BESIDE);
      int due = cipher == 2 ? 0 : 1;
      for (int n : lengths) {
        Check.tape(x, new byte[n]);
        x.number(0);
        x.seal();
        due += 1 + (n + size - 1) / size;
        Check.due("BLOCKS after seal() of " + n, x.count(4), due);
        x.number(0);
        x.back(-1, 0);
        x.open();
        due += 1 + (n + size - 1) / size;
        Check.due("BLOCKS after open() of " + n, x.count(4), due);
      }
      Check.tape(x, KEY_16);
      x.use(0);
      Check.tape(x, KEY_32);
      x.use(2);
      Check.tape(x, KEY_32);
      x.use(1);
      Check.tape(x, KEY_32);
      x.use(1);
      Check.due("BLOCKS of all ciphers", x.count(4), due + 3);
    }
  }

  private static void numbered() {
    SealBox x = Check.ready(2, KEY_32, IV, BESIDE);
    x.number(41);
    x.feed(1, 2, 3, 4, 5);
    x.beside();
    Check.due("numbered() behind beside", x.numbered(), 41);
    x.seal();
    Check.due("numbered() behind seal", x.numbered(), 42);
    Check.due("numbered() changes nothing", x.numbered(), 42);
    x.back(-1, 0);
    Check.dueThrow("open()", UnsupportedOperationException.class, x::open);
    Check.due("numbered() behind an open that failed", x.numbered(), 42);
    x.number(41);
    x.open();
    Check.due("numbered() behind open", x.numbered(), 42);
  }

  private static void objectsApart() {
    SealBox x = Check.ready(1, KEY_32, IV, BESIDE);
    SealBox y = new SealBox();
    Check.tape(x, TEXT);
    Check.dueThrow("another object's seal()", IllegalStateException.class, y::seal);
    counts("another object", y, 0, 0, 0, -1, 0, 0, 0, 0);
    Check.tape(y, KEY_16);
    y.use(0);
    x.seal();
    Check.due("BOX", Check.box(x), sealed(1, IV, 0, BESIDE, TEXT));
  }
}
