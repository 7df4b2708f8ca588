import java.util.NoSuchElementException;

/** The boundary cases that the document's Terms name; each method tests the sentence above it. */
public final class TermsBoundaryTest {
  private static final byte[] NOTHING = Standing.NOTHING;

  public static void main(String[] args) {
    tapeAtMost65536();
    tapeOfAllCalls();
    emptyAtFirst();
    takenTapeIsEmpty();
    thrownTapeStays();
    nonceOfNumberBytes();
    nonceOfIvBytes();
    blocksOfHashKey();
    blocksOfAes();
    blocksOfChaCha();
    blocksOfBeside();
    blocksInAll();
    blocksOfFailure();
    blocksOfShortFailure();
    throwingChangesNothing();
    firstExceptionOfUse();
    firstExceptionOfOpen();
    Check.finish();
  }

  /** "THE TAPE: a row of bytes, at most 65,536" (takes more calls than the promised 512). */
  private static void tapeAtMost65536() {
    Standing almost = Standing.inUse(0).withTape(Standing.drawn(65_516));
    byte[] full = Check.joined(almost.tape,
        Check.hex("00000001 00000002 00000003 00000004 fffffffb"));
    almost.answers("feed at 65516", x -> x.feed(1, 2, 3, 4, -5), 65_536, almost.withTape(full));
    Standing one = almost.withTape(Standing.drawn(65_517));
    one.refuses("feed at 65517", IllegalStateException.class, x -> x.feed(1, 2, 3, 4, 5));
    Standing before = almost.withTape(Standing.drawn(65_515));
    byte[] less = Check.joined(before.tape, new byte[20]);
    before.answers("feed at 65515", x -> x.feed(0, 0, 0, 0, 0), 65_535, before.withTape(less));
  }

  /** The same within the promised calls: 512 of them never fill it. */
  private static void tapeOfAllCalls() {
    SealBox x = new SealBox();
    for (int n = 1; n <= 512; n++) {
      Check.due("feed number " + n, x.feed(n, 0, 0, 0, 0), 20 * n);
    }
  }

  /** "empty at first", "none at first", "0 at first". */
  private static void emptyAtFirst() {
    SealBox x = new SealBox();
    for (int what = 0; what < 8; what++) {
      Check.due("count(" + what + ") at first", x.count(what), what == 3 ? -1 : 0);
    }
    Check.due("numbered() at first", x.numbered(), 0);
    Check.dueThrow("box(0) at first", IndexOutOfBoundsException.class, () -> x.box(0));
    for (int cipher = 0; cipher < 3; cipher++) {
      SealBox y = new SealBox();
      Check.tape(y, Standing.drawnKey(cipher));
      y.use(cipher);
      y.seal();
      Check.due("a record with IV, NUMBER and BESIDE of a new object", Check.box(y),
          Library.sealed(cipher, Standing.drawnKey(cipher), new byte[12], NOTHING, NOTHING));
    }
  }

  /** "a call that takes the TAPE leaves it empty" */
  private static void takenTapeIsEmpty() {
    for (int cipher = 0; cipher < 3; cipher++) {
      int c = cipher;
      Standing s = Standing.inUse(cipher);
      Standing key = s.withTape(Standing.drawn(Standing.keyBytes(cipher)));
      key.leaves("use", x -> x.use(c), key.afterUse(c));
      Standing iv = s.withTape(Standing.drawn(12));
      iv.leaves("iv", SealBox::iv, iv.afterIv());
      s.leaves("beside", SealBox::beside, s.afterBeside());
      s.leaves("seal", SealBox::seal, s.afterSeal());
      Standing record = s.withTape(s.record(Standing.drawn(30)));
      record.leaves("open", SealBox::open, record.afterOpen(Standing.drawn(30)));
      emptyBehind("use", key, x -> x.use(c));
      emptyBehind("iv", iv, SealBox::iv);
      emptyBehind("beside", s, SealBox::beside);
      emptyBehind("seal", s, SealBox::seal);
      emptyBehind("open", record, SealBox::open);
    }
  }

  private static void emptyBehind(String what, Standing before, Standing.Call call) {
    SealBox x = before.made();
    call.on(x);
    Check.dueThrow("end(1) behind " + what, IllegalArgumentException.class, () -> x.end(1));
    Check.due("end(0) behind " + what, x.end(0), 0);
    Check.due("feed behind " + what, x.feed(1, 2, 3, 4, 5), 20);
  }

  /** "leaves it empty, unless it throws" */
  private static void thrownTapeStays() {
    Standing none = Standing.noneInUse();
    staysBehind("use that throws", none, x -> x.use(3), NoSuchElementException.class);
    staysBehind("use that throws", none, x -> x.use(0), IllegalArgumentException.class);
    staysBehind("iv that throws", none, SealBox::iv, IllegalArgumentException.class);
    staysBehind("seal that throws", none, SealBox::seal, IllegalStateException.class);
    staysBehind("open that throws", none, SealBox::open, IllegalStateException.class);
    for (int cipher = 0; cipher < 3; cipher++) {
      staysBehind("open that throws", Standing.inUse(cipher), SealBox::open,
          UnsupportedOperationException.class);
    }
  }

  private static void staysBehind(String what, Standing before, Standing.Call call,
      Class<? extends RuntimeException> want) {
    SealBox x = before.made();
    Check.dueThrow(what, want, () -> call.on(x));
    Check.due("the TAPE behind " + what, x.count(0), 40);
    Check.dueThrow("end(41) behind " + what, IllegalArgumentException.class, () -> x.end(41));
    Check.due("end(40) behind " + what, x.end(40), 40);
    Check.due("feed behind " + what, x.feed(1, 2, 3, 4, 5), 60);
  }

  /** "Nonce: IV, its last 8 bytes exclusive-or'ed with NUMBER, the highest byte first." */
  private static void nonceOfNumberBytes() {
    byte[][] ivs = {new byte[12], Check.hex("ffffffff ffffffff ffffffff"), Standing.drawn(12)};
    for (int cipher = 0; cipher < 3; cipher++) {
      for (byte[] iv : ivs) {
        for (int bit = 0; bit < 64; bit++) {
          byte[] nonce = Standing.changed(iv, 11 - bit / 8, 1 << bit % 8);
          sealedWith(cipher, iv, 1L << bit, nonce);
        }
        sealedWith(cipher, iv, 0, iv);
        byte[] nonce = iv.clone();
        for (int at = 4; at < 12; at++) {
          nonce[at] ^= (byte) 0xff;
        }
        sealedWith(cipher, iv, -1, nonce);
      }
    }
  }

  /** The first four bytes are IV's as they are. */
  private static void nonceOfIvBytes() {
    for (int cipher = 0; cipher < 3; cipher++) {
      for (int at = 0; at < 12; at++) {
        byte[] iv = Standing.changed(new byte[12], at, 0x81);
        byte[] nonce = iv.clone();
        nonce[11] ^= 5;
        nonce[4] ^= (byte) 0x80;
        sealedWith(cipher, iv, Long.MIN_VALUE + 5, nonce);
      }
    }
  }

  private static void sealedWith(int cipher, byte[] iv, long number, byte[] nonce) {
    byte[] key = Standing.drawnKey(cipher);
    byte[] text = Standing.drawn(20);
    SealBox x = Check.ready(cipher, key, iv, NOTHING);
    x.number(number);
    Check.tape(x, text);
    x.seal();
    Check.due("cipher " + cipher + ", number " + number, Check.box(x),
        Library.sealed(cipher, key, nonce, NOTHING, text));
  }

  /** "for the key of its hash when it comes into use: 1"; ChaCha20 has none. */
  private static void blocksOfHashKey() {
    int[] due = {1, 1, 0};
    for (int cipher = 0; cipher < 3; cipher++) {
      SealBox x = new SealBox();
      Check.tape(x, Standing.drawnKey(cipher));
      Check.due("BLOCKS before use", x.count(4), 0);
      x.use(cipher);
      Check.due("BLOCKS behind use(" + cipher + ")", x.count(4), due[cipher]);
      Check.tape(x, Standing.drawnKey(cipher));
      x.use(cipher);
      Check.due("BLOCKS behind use(" + cipher + ") again", x.count(4), 2 * due[cipher]);
    }
  }

  /** "for each text 1 more than its 16s, begun ones too" */
  private static void blocksOfAes() {
    int[][] due = {{0, 1}, {1, 2}, {15, 2}, {16, 2}, {17, 3}, {31, 3}, {32, 3}, {33, 4}, {48, 4},
        {49, 5}, {64, 5}, {65, 6}, {255, 17}, {256, 17}, {257, 18}};
    for (int[] row : due) {
      blocksOfText(0, row[0], row[1]);
      blocksOfText(1, row[0], row[1]);
    }
  }

  /** "ChaCha20 for each of 64 bytes (1 for the tag's key, 1 for each 64 of the text)" */
  private static void blocksOfChaCha() {
    int[][] due = {{0, 1}, {1, 2}, {15, 2}, {16, 2}, {17, 2}, {63, 2}, {64, 2}, {65, 3}, {127, 3},
        {128, 3}, {129, 4}, {192, 4}, {193, 5}, {256, 5}, {257, 6}};
    for (int[] row : due) {
      blocksOfText(2, row[0], row[1]);
    }
  }

  private static void blocksOfText(int cipher, int n, int due) {
    SealBox x = Check.ready(cipher, Standing.drawnKey(cipher), Standing.drawn(12), NOTHING);
    Check.tape(x, Standing.drawn(n));
    int before = x.count(4);
    x.seal();
    Check.due("cipher " + cipher + ", BLOCKS of seal() of " + n, x.count(4) - before, due);
    x.back(-1, 0);
    x.number(0);
    before = x.count(4);
    x.open();
    Check.due("cipher " + cipher + ", BLOCKS of open() to " + n, x.count(4) - before, due);
  }

  /** What is only vouched for turns no block. */
  private static void blocksOfBeside() {
    int[] lengths = {0, 1, 16, 17, 64, 65, 200};
    for (int cipher = 0; cipher < 3; cipher++) {
      for (int n : lengths) {
        SealBox x = Check.ready(cipher, Standing.drawnKey(cipher), new byte[12], Standing.drawn(n));
        int before = x.count(4);
        x.seal();
        Check.due("BLOCKS of seal() with BESIDE of " + n, x.count(4) - before, 1);
        x.back(-1, 0);
        x.number(0);
        x.open();
        Check.due("BLOCKS of open() with BESIDE of " + n, x.count(4) - before, 2);
      }
    }
  }

  /** "how often, in all, one of the ciphers turned a block" */
  private static void blocksInAll() {
    SealBox x = new SealBox();
    int due = 0;
    int[] order = {2, 0, 1, 2, 1, 0, 0, 2};
    for (int cipher : order) {
      Check.tape(x, Standing.drawnKey(cipher));
      x.use(cipher);
      due += cipher == 2 ? 0 : 1;
      Check.due("BLOCKS behind use(" + cipher + ")", x.count(4), due);
      Check.tape(x, Standing.drawn(65));
      x.seal();
      due += cipher == 2 ? 3 : 6;
      Check.due("BLOCKS behind seal with " + cipher, x.count(4), due);
    }
  }

  /** "An opening that fails turned 1" however long the TAPE is. */
  private static void blocksOfFailure() {
    int[] lengths = {16, 17, 31, 32, 33, 79, 80, 81, 300};
    for (int cipher = 0; cipher < 3; cipher++) {
      for (int n : lengths) {
        Standing s = Standing.inUse(cipher).withTape(Standing.drawn(n));
        s.refuses("open() of " + n + " wrong bytes", UnsupportedOperationException.class,
            SealBox::open, s.afterFailure(1));
      }
    }
  }

  /** "or none if there are fewer than 16 bytes" */
  private static void blocksOfShortFailure() {
    for (int cipher = 0; cipher < 3; cipher++) {
      for (int n = 0; n < 16; n++) {
        Standing s = Standing.inUse(cipher).withTape(Standing.drawn(n));
        s.refuses("open() of " + n, UnsupportedOperationException.class, SealBox::open,
            s.afterFailure(0));
      }
    }
  }

  /** "What throws changes nothing, but for BLOCKS and the count of openings that failed." */
  private static void throwingChangesNothing() {
    SealBox x = Standing.inUse(1).made();
    SealBox same = Standing.inUse(1).made();
    for (int round = 0; round < 3; round++) {
      Check.dueThrow("end", IllegalArgumentException.class, () -> x.end(41));
      Check.dueThrow("use", NoSuchElementException.class, () -> x.use(3));
      Check.dueThrow("use", IllegalArgumentException.class, () -> x.use(1));
      Check.dueThrow("iv", IllegalArgumentException.class, x::iv);
      Check.dueThrow("open", UnsupportedOperationException.class, x::open);
      Check.dueThrow("back", IndexOutOfBoundsException.class, () -> x.back(35, 1));
      Check.dueThrow("box", IndexOutOfBoundsException.class, () -> x.box(35));
    }
    for (int what = 0; what < 8; what++) {
      int more = what == 4 || what == 7 ? 3 : 0;
      Check.due("count(" + what + ") behind all that throws", x.count(what),
          same.count(what) + more);
    }
    Check.due("NUMBER behind all that throws", x.numbered(), same.numbered());
    Check.due("BOX behind all that throws", Check.box(x), Check.box(same));
    x.seal();
    same.seal();
    Check.due("a record behind all that throws", Check.box(x), Check.box(same));
  }

  /** "the first of them that fits is thrown": NoSuchElementException before the key's length. */
  private static void firstExceptionOfUse() {
    int[] noCiphers = {-1, 3, Integer.MIN_VALUE, Integer.MAX_VALUE};
    int[] lengths = {0, 15, 16, 17, 32, 33};
    for (int cipher : noCiphers) {
      for (int n : lengths) {
        Standing s = Standing.noneInUse().withTape(Standing.drawn(n));
        s.refuses("use(" + cipher + ") with " + n, NoSuchElementException.class,
            x -> x.use(cipher));
      }
    }
  }

  /** The same for open: IllegalStateException before the TAPE is looked at. */
  private static void firstExceptionOfOpen() {
    int[] lengths = {0, 15, 16, 17, 100};
    for (int n : lengths) {
      Standing s = Standing.noneInUse().withTape(Standing.drawn(n));
      s.refuses("open() of " + n + ", none IN USE", IllegalStateException.class, SealBox::open);
    }
  }
}
