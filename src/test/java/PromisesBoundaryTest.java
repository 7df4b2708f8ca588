import java.util.NoSuchElementException;

/** The boundary cases of each promise; each method tests the sentence above it. */
public final class PromisesBoundaryTest {
  private static final byte[] NOTHING = Standing.NOTHING;
  private static final int LEAST = Integer.MIN_VALUE;
  private static final int MOST = Integer.MAX_VALUE;

  public static void main(String[] args) {
    newObject();
    feedBytes();
    feedWithoutRoom();
    endWithin();
    endOutside();
    endOfNothing();
    useOfRightLength();
    useOfNoCipher();
    useOfWrongLength();
    useOfEachPair();
    ivOf12();
    ivOfOtherLength();
    numberOfAnyLong();
    besideOfNothing();
    besideOfAnyLength();
    besideStays();
    sealOfNothing();
    sealOfAnyLength();
    sealNumberWraps();
    sealWithNoneInUse();
    openToNothing();
    openOfAnyLength();
    openNumberWraps();
    openWithNoneInUse();
    openOfWrongTag();
    openOfTwiceWrongTag();
    openOfOtherBytes();
    openInOtherState();
    openOfTooFew();
    openBehindFailures();
    backAsItIs();
    backLowBits();
    backOfEndBytes();
    backOfNoByte();
    backOfEmptyBox();
    backAboveLimit();
    backAboveLimitTaken();
    backAboveLimitAgain();
    backAboveLimitNotFed();
    boxValues();
    boxOfNoByte();
    countOfEach();
    countElse();
    numberedAnyLong();
    Check.finish();
  }

  /** 1: "None IN USE, all empty." */
  private static void newObject() {
    Standing s = Standing.newObject();
    s.leaves("nothing", x -> { }, s);
    // The recipe of a Standing makes calls, so a new object is looked at by itself too.
    SealBox x = new SealBox();
    Check.due("end(0) of a new object", x.end(0), 0);
    Check.dueThrow("end(1) of a new object", IllegalArgumentException.class, () -> x.end(1));
    Check.due("back(-1, 0) of a new object", x.back(-1, 0), 0);
    Check.due("beside() of a new object", x.beside(), 0);
    Check.dueThrow("seal() of a new object", IllegalStateException.class, x::seal);
    Check.dueThrow("open() of a new object", IllegalStateException.class, x::open);
  }

  /** 2: "The four bytes of each number, the highest first, come to the TAPE: its length." */
  private static void feedBytes() {
    Standing s = Standing.inUse(2).withTape(NOTHING);
    s.answers("feed of least and most", x -> x.feed(LEAST, MOST, -1, 0, 1), 20,
        s.withTape(Check.hex("80000000 7fffffff ffffffff 00000000 00000001")));
    s.answers("feed of bytes", x -> x.feed(0x00010203, 0x7f80ff01, 0xfffefdfc, 256, 65_536), 20,
        s.withTape(Check.hex("00010203 7f80ff01 fffefdfc 00000100 00010000")));
    int[] lengths = {1, 19, 20, 21, 43, 44, 45, 63, 64, 65};
    for (int n : lengths) {
      Standing t = s.withTape(Standing.drawn(n));
      byte[] longer = Check.joined(t.tape,
          Check.hex("00000005 00000004 00000003 00000002 00000001"));
      t.answers("feed at " + n, x -> x.feed(5, 4, 3, 2, 1), n + 20, t.withTape(longer));
    }
  }

  /** 2: "IllegalStateException: there is no room for 20." (more calls than the promised 512) */
  private static void feedWithoutRoom() {
    int[] full = {65_517, 65_518, 65_535, 65_536};
    for (int n : full) {
      Standing s = Standing.inUse(2).withTape(Standing.drawn(n));
      s.refuses("feed at " + n, IllegalStateException.class, x -> x.feed(1, 2, 3, 4, 5));
    }
    Standing none = Standing.noneInUse().withTape(Standing.drawn(65_517));
    none.refuses("feed at 65517", IllegalStateException.class, x -> x.feed(0, 0, 0, 0, 0));
    Standing room = Standing.noneInUse().withTape(Standing.drawn(65_516));
    room.answers("feed at 65516", x -> x.feed(0, 0, 0, 0, 0), 65_536,
        room.withTape(Check.joined(room.tape, new byte[20])));
  }

  /** 3: "Only the first n bytes of the TAPE stay: n." */
  private static void endWithin() {
    int[] ends = {0, 1, 16, 39, 40};
    for (int n : ends) {
      Standing s = Standing.inUse(1);
      s.answers("end(" + n + ")", x -> x.end(n), n, s.withTape(Standing.firstOf(s.tape, n)));
      Standing none = Standing.noneInUse();
      none.answers("end(" + n + ")", x -> x.end(n), n,
          none.withTape(Standing.firstOf(none.tape, n)));
    }
    // What was cut off must not come again with the bytes that are fed behind it.
    Standing s = Standing.inUse(0);
    byte[] want = Check.joined(Standing.firstOf(s.tape, 7), new byte[20]);
    s.leaves("end(7) and feed", x -> {
      x.end(7);
      x.feed(0, 0, 0, 0, 0);
    }, s.withTape(want));
  }

  /** 3: "IllegalArgumentException: n is not 0 .. its length." */
  private static void endOutside() {
    int[] wrong = {-1, 41, -40, 60, 64, LEAST, MOST};
    for (int n : wrong) {
      Standing.inUse(1).refuses("end(" + n + ")", IllegalArgumentException.class, x -> x.end(n));
      Standing.noneInUse().refuses("end(" + n + ")", IllegalArgumentException.class,
          x -> x.end(n));
    }
    SealBox x = Standing.inUse(1).made();
    x.end(12);
    Check.dueThrow("end(13) behind end(12)", IllegalArgumentException.class, () -> x.end(13));
    Check.due("end(12) behind it", x.end(12), 12);
  }

  /** 3: the same of the empty TAPE. */
  private static void endOfNothing() {
    Standing s = Standing.inUse(2).withTape(NOTHING);
    s.answers("end(0) of nothing", x -> x.end(0), 0, s);
    s.refuses("end(1) of nothing", IllegalArgumentException.class, x -> x.end(1));
    s.refuses("end(-1) of nothing", IllegalArgumentException.class, x -> x.end(-1));
    s.refuses("end(20) of nothing", IllegalArgumentException.class, x -> x.end(20));
  }

  /** 4: "This CIPHER is IN USE with the TAPE as its key; NUMBER becomes 0 (.. BOX stay)." */
  private static void useOfRightLength() {
    for (int cipher = 0; cipher < 3; cipher++) {
      int c = cipher;
      byte[] key = Standing.drawn(Standing.keyBytes(cipher));
      Standing none = Standing.noneInUse().withTape(key);
      none.leaves("first use(" + c + ")", x -> x.use(c), none.afterUse(c));
      for (int before = 0; before < 3; before++) {
        Standing s = Standing.inUse(before).withTape(key);
        s.leaves("use(" + c + ") behind " + before, x -> x.use(c), s.afterUse(c));
        Standing least = s.withNumber(Long.MIN_VALUE);
        least.leaves("use(" + c + ") at the least", x -> x.use(c), least.afterUse(c));
      }
    }
  }

  /** 4: "NoSuchElementException: no such CIPHER." */
  private static void useOfNoCipher() {
    int[] wrong = {-1, 3, 4, 16, 32, 256, LEAST, MOST};
    for (int cipher : wrong) {
      for (int n = 16; n <= 32; n += 16) {
        Standing none = Standing.noneInUse().withTape(Standing.drawn(n));
        none.refuses("use(" + cipher + ")", NoSuchElementException.class, x -> x.use(cipher));
        Standing s = Standing.inUse(2).withTape(Standing.drawn(n));
        s.refuses("use(" + cipher + ")", NoSuchElementException.class, x -> x.use(cipher));
      }
    }
  }

  /** 4: "IllegalArgumentException: the TAPE has not its keys' length." */
  private static void useOfWrongLength() {
    int[] lengths = {0, 1, 12, 15, 16, 17, 20, 24, 31, 32, 33, 48, 64};
    for (int cipher = 0; cipher < 3; cipher++) {
      int c = cipher;
      for (int n : lengths) {
        if (n == Standing.keyBytes(cipher)) {
          continue;
        }
        String what = "use(" + c + ") with " + n;
        Standing none = Standing.noneInUse().withTape(Standing.drawn(n));
        none.refuses(what, IllegalArgumentException.class, x -> x.use(c));
        // Another one's key, and its own, must stay in use.
        for (int before = 0; before < 3; before++) {
          Standing s = Standing.inUse(before).withTape(Standing.drawn(n));
          s.refuses(what, IllegalArgumentException.class, x -> x.use(c));
        }
      }
    }
  }

  /** 4: the key is the one of the last use, also where the same cipher was in use before. */
  private static void useOfEachPair() {
    for (int first = 0; first < 3; first++) {
      for (int second = 0; second < 3; second++) {
        SealBox x = new SealBox();
        Check.tape(x, Standing.drawnKey(first));
        x.use(first);
        byte[] key = Standing.drawn(Standing.keyBytes(second));
        Check.tape(x, key);
        x.use(second);
        Check.tape(x, Standing.drawnKey(first));
        x.seal();
        Check.due("a record of the second key", Check.box(x), Library.sealed(second, key,
            new byte[12], NOTHING, Standing.drawnKey(first)));
      }
    }
  }

  /** 5: "IV is the TAPE; NUMBER becomes 0." */
  private static void ivOf12() {
    long[] numbers = {0, 1, -1, Long.MAX_VALUE, Long.MIN_VALUE};
    byte[][] ivs = {Standing.drawn(12), new byte[12], Check.hex("ffffffff ffffffff ffffffff")};
    for (long number : numbers) {
      for (byte[] iv : ivs) {
        Standing none = Standing.noneInUse().withTape(iv).withNumber(number);
        none.leaves("iv()", SealBox::iv, none.afterIv());
        Standing s = Standing.inUse(0).withTape(iv).withNumber(number);
        s.leaves("iv()", SealBox::iv, s.afterIv());
      }
    }
  }

  /** 5: "IllegalArgumentException: it has not 12 bytes." */
  private static void ivOfOtherLength() {
    int[] lengths = {0, 1, 8, 11, 13, 16, 20, 24, 32};
    for (int n : lengths) {
      Standing none = Standing.noneInUse().withTape(Standing.drawn(n));
      none.refuses("iv() of " + n, IllegalArgumentException.class, SealBox::iv);
      for (int cipher = 0; cipher < 3; cipher++) {
        Standing s = Standing.inUse(cipher).withTape(Standing.drawn(n));
        s.refuses("iv() of " + n, IllegalArgumentException.class, SealBox::iv);
      }
    }
  }

  /** 6: "NUMBER becomes that." */
  private static void numberOfAnyLong() {
    long[] numbers = {0, 1, -1, MOST, LEAST, 1L << 31, 1L << 32, (1L << 32) - 1, Long.MAX_VALUE,
        Long.MAX_VALUE - 1, Long.MIN_VALUE, Long.MIN_VALUE + 1};
    for (long n : numbers) {
      Standing none = Standing.noneInUse();
      none.leaves("number(" + n + ")", x -> x.number(n), none.withNumber(n));
      for (int cipher = 0; cipher < 3; cipher++) {
        Standing s = Standing.inUse(cipher);
        s.leaves("number(" + n + ")", x -> x.number(n), s.withNumber(n));
      }
    }
  }

  /** 7: "BESIDE is the TAPE: its length." of the empty TAPE. */
  private static void besideOfNothing() {
    Standing none = Standing.noneInUse().withTape(NOTHING);
    none.answers("beside() of nothing", SealBox::beside, 0, none.afterBeside());
    for (int cipher = 0; cipher < 3; cipher++) {
      Standing s = Standing.inUse(cipher).withTape(NOTHING);
      s.answers("beside() of nothing", SealBox::beside, 0, s.afterBeside());
    }
  }

  /** 7: the same of other lengths, shorter and longer than what was BESIDE before. */
  private static void besideOfAnyLength() {
    int[] lengths = {1, 15, 16, 17, 20, 21, 22, 31, 32, 33, 63, 64, 65, 2000};
    for (int n : lengths) {
      Standing none = Standing.noneInUse().withTape(Standing.drawn(n));
      none.answers("beside() of " + n, SealBox::beside, n, none.afterBeside());
      for (int cipher = 0; cipher < 3; cipher++) {
        Standing s = Standing.inUse(cipher).withTape(Standing.drawn(n));
        s.answers("beside() of " + n, SealBox::beside, n, s.afterBeside());
      }
    }
  }

  /** 8: "BESIDE being vouched for (it stays)", the empty one too. */
  private static void besideStays() {
    int[] lengths = {0, 1, 16, 50};
    for (int cipher = 0; cipher < 3; cipher++) {
      for (int n : lengths) {
        Standing s = Standing.inUse(cipher).withBeside(Standing.drawn(n));
        s.answers("seal() with BESIDE of " + n, SealBox::seal, 56, s.afterSeal());
        Standing record = s.withTape(s.record(Standing.drawn(9)));
        record.answers("open() with BESIDE of " + n, SealBox::open, 9,
            record.afterOpen(Standing.drawn(9)));
      }
    }
  }

  /** 8: "BOX is the TAPE, sealed, .. and behind it the tag of 16 bytes" of the empty TAPE. */
  private static void sealOfNothing() {
    for (int cipher = 0; cipher < 3; cipher++) {
      Standing s = Standing.inUse(cipher).withTape(NOTHING);
      s.answers("seal() of nothing", SealBox::seal, 16, s.afterSeal());
      Standing alone = s.withBeside(NOTHING);
      alone.answers("seal() of nothing, BESIDE empty", SealBox::seal, 16, alone.afterSeal());
    }
  }

  /** 8: the same about the ends of the ciphers' blocks. */
  private static void sealOfAnyLength() {
    int[] lengths = {1, 15, 16, 17, 31, 32, 33, 63, 64, 65, 127, 128, 129, 1000};
    for (int cipher = 0; cipher < 3; cipher++) {
      for (int n : lengths) {
        Standing s = Standing.inUse(cipher).withTape(Standing.drawn(n));
        s.answers("seal() of " + n, SealBox::seal, n + 16, s.afterSeal());
      }
    }
  }

  /** 8: "NUMBER one more (behind 2 to the 63rd less 1 comes the least long)" */
  private static void sealNumberWraps() {
    for (int cipher = 0; cipher < 3; cipher++) {
      long[][] steps = {{Long.MAX_VALUE - 1, Long.MAX_VALUE}, {Long.MAX_VALUE, Long.MIN_VALUE},
          {Long.MIN_VALUE, Long.MIN_VALUE + 1}, {-1, 0}, {0, 1}, {MOST, 1L << 31},
          {0xffffffffL, 1L << 32}};
      for (long[] step : steps) {
        SealBox x = Standing.inUse(cipher).withNumber(step[0]).made();
        x.seal();
        Check.due("NUMBER behind seal() with " + step[0], x.numbered(), step[1]);
        Standing s = Standing.inUse(cipher).withNumber(step[0]);
        s.answers("seal() with " + step[0], SealBox::seal, 56, s.afterSeal());
      }
    }
  }

  /** 8: "IllegalStateException: none IN USE." */
  private static void sealWithNoneInUse() {
    int[] lengths = {0, 1, 16, 40};
    for (int n : lengths) {
      Standing s = Standing.noneInUse().withTape(Standing.drawn(n));
      s.refuses("seal() of " + n + ", none IN USE", IllegalStateException.class, SealBox::seal);
    }
    SealBox x = Standing.noneInUse().withTape(Standing.drawn(16)).made();
    Check.dueThrow("use with another's key", IllegalArgumentException.class, () -> x.use(1));
    Check.dueThrow("seal() behind it", IllegalStateException.class, x::seal);
    x.use(0);
    Check.due("seal() behind use", x.seal(), 16);
  }

  /** 9: "BOX is what the TAPE opens to .. BOX's length." of a tag alone. */
  private static void openToNothing() {
    for (int cipher = 0; cipher < 3; cipher++) {
      Standing s = Standing.inUse(cipher);
      Standing record = s.withTape(s.record(NOTHING));
      record.answers("open() of a tag alone", SealBox::open, 0, record.afterOpen(NOTHING));
      Standing alone = s.withBeside(NOTHING);
      alone = alone.withTape(alone.record(NOTHING));
      alone.answers("open() of a tag, BESIDE empty", SealBox::open, 0, alone.afterOpen(NOTHING));
    }
  }

  /** 9: the same about the ends of the ciphers' blocks. */
  private static void openOfAnyLength() {
    int[] lengths = {1, 15, 16, 17, 31, 32, 33, 63, 64, 65, 127, 128, 129, 1000};
    for (int cipher = 0; cipher < 3; cipher++) {
      for (int n : lengths) {
        Standing s = Standing.inUse(cipher);
        Standing record = s.withTape(s.record(Standing.drawn(n)));
        record.answers("open() to " + n, SealBox::open, n, record.afterOpen(Standing.drawn(n)));
      }
    }
  }

  /** 9: "NUMBER one more", behind the greatest the least. */
  private static void openNumberWraps() {
    long[][] steps = {{Long.MAX_VALUE - 1, Long.MAX_VALUE}, {Long.MAX_VALUE, Long.MIN_VALUE},
        {Long.MIN_VALUE, Long.MIN_VALUE + 1}, {-1, 0}, {0, 1}, {0xffffffffL, 1L << 32}};
    for (int cipher = 0; cipher < 3; cipher++) {
      for (long[] step : steps) {
        Standing s = Standing.inUse(cipher).withNumber(step[0]);
        Standing record = s.withTape(s.record(Standing.drawn(9)));
        SealBox x = record.made();
        x.open();
        Check.due("NUMBER behind open() with " + step[0], x.numbered(), step[1]);
        record.answers("open() with " + step[0], SealBox::open, 9,
            record.afterOpen(Standing.drawn(9)));
      }
    }
  }

  /** 9: "IllegalStateException: none IN USE."; it is no opening that failed. */
  private static void openWithNoneInUse() {
    int[] lengths = {0, 15, 16, 17, 40};
    for (int n : lengths) {
      Standing s = Standing.noneInUse().withTape(Standing.drawn(n));
      s.refuses("open() of " + n + ", none IN USE", IllegalStateException.class, SealBox::open);
    }
  }

  /** 9: "UnsupportedOperationException: its tag is wrong": each bit of it counts. */
  private static void openOfWrongTag() {
    for (int cipher = 0; cipher < 3; cipher++) {
      Standing s = Standing.inUse(cipher);
      byte[] record = s.record(Standing.drawn(21));
      for (int bit = 0; bit < 128; bit++) {
        failsToOpen("bit " + bit + " of the tag changed", s,
            Standing.changed(record, 21 + bit / 8, 1 << bit % 8));
      }
      byte[] tag = s.record(NOTHING);
      for (int bit = 0; bit < 128; bit++) {
        failsToOpen("bit " + bit + " of a tag alone changed", s,
            Standing.changed(tag, bit / 8, 1 << bit % 8));
      }
    }
  }

  /** 9: the same where two changes might make up for each other. */
  private static void openOfTwiceWrongTag() {
    for (int cipher = 0; cipher < 3; cipher++) {
      Standing s = Standing.inUse(cipher);
      byte[] record = s.record(Standing.drawn(21));
      for (int first = 0; first < 16; first++) {
        for (int second = first + 1; second < 16; second++) {
          byte[] once = Standing.changed(record, 21 + first, 0x80);
          failsToOpen("bytes " + first + " and " + second + " of the tag changed", s,
              Standing.changed(once, 21 + second, 0x80));
        }
      }
    }
  }

  /** 9: the tag is wrong for a text that was changed, cut off, made longer or moved. */
  private static void openOfOtherBytes() {
    for (int cipher = 0; cipher < 3; cipher++) {
      Standing s = Standing.inUse(cipher);
      byte[] record = s.record(Standing.drawn(33));
      for (int at = 0; at < 33; at++) {
        failsToOpen("byte " + at + " changed", s, Standing.changed(record, at, 0x80));
      }
      failsToOpen("the last byte cut off", s, Standing.firstOf(record, 48));
      failsToOpen("a byte more", s, Standing.firstOf(record, 50));
      failsToOpen("all but 16 cut off", s, Standing.firstOf(record, 16));
      failsToOpen("16 bytes of 0", s, new byte[16]);
      failsToOpen("17 bytes of 0", s, new byte[17]);
    }
  }

  /** 9: the tag is wrong with another BESIDE, IV, NUMBER or key. */
  private static void openInOtherState() {
    for (int cipher = 0; cipher < 3; cipher++) {
      Standing s = Standing.inUse(cipher);
      byte[] record = s.record(Standing.drawn(33));
      failsToOpen("BESIDE empty", s.withBeside(NOTHING), record);
      failsToOpen("BESIDE shorter", s.withBeside(Standing.firstOf(s.beside, 20)), record);
      failsToOpen("BESIDE with a 0 more", s.withBeside(Standing.firstOf(s.beside, 22)), record);
      for (int at = 0; at < 21; at++) {
        failsToOpen("BESIDE changed", s.withBeside(Standing.changed(s.beside, at, 1)), record);
      }
      failsToOpen("NUMBER one more", s.withNumber(s.number + 1), record);
      failsToOpen("NUMBER one less", s.withNumber(s.number - 1), record);
      failsToOpen("NUMBER less 2^63", s.withNumber(s.number + Long.MIN_VALUE), record);
      failsToOpen("NUMBER and 2^32", s.withNumber(s.number + (1L << 32)), record);
      for (int at = 0; at < 12; at++) {
        Standing other = s.copy();
        other.iv = Standing.changed(s.iv, at, 0x10);
        failsToOpen("IV changed at " + at, other, record);
      }
      for (int at = 0; at < s.key.length; at++) {
        Standing other = s.copy();
        other.key = Standing.changed(s.key, at, 1);
        failsToOpen("the key changed at " + at, other, record);
      }
    }
    Standing s = Standing.inUse(1);
    Standing other = Standing.inUse(2);
    other.key = s.key;
    failsToOpen("another cipher's record", other, s.record(Standing.drawn(33)));
  }

  private static void failsToOpen(String what, Standing state, byte[] record) {
    Standing s = state.withTape(record);
    s.refuses("open() with " + what, UnsupportedOperationException.class, SealBox::open,
        s.afterFailure(1));
  }

  /** 9: "or it has fewer than 16 bytes (the TAPE, BOX and NUMBER stay)", 16 just being enough. */
  private static void openOfTooFew() {
    for (int cipher = 0; cipher < 3; cipher++) {
      Standing s = Standing.inUse(cipher);
      byte[] tag = s.record(NOTHING);
      for (int n = 0; n < 16; n++) {
        Standing few = s.withTape(Standing.firstOf(tag, n));
        few.refuses("open() of " + n, UnsupportedOperationException.class, SealBox::open,
            few.afterFailure(0));
      }
      Standing enough = s.withTape(tag);
      enough.answers("open() of 16", SealBox::open, 0, enough.afterOpen(NOTHING));
    }
  }

  /** 9: the TAPE that stayed opens as soon as all is right again. */
  private static void openBehindFailures() {
    for (int cipher = 0; cipher < 3; cipher++) {
      Standing s = Standing.inUse(cipher);
      byte[] text = Standing.drawn(33);
      Standing before = s.withTape(s.record(text)).withNumber(s.number + 1);
      Standing after = before.withNumber(s.number).afterFailure(1).afterFailure(1).afterOpen(text);
      before.leaves("two failures and an opening", x -> {
        Check.dueThrow("open()", UnsupportedOperationException.class, x::open);
        Check.dueThrow("open()", UnsupportedOperationException.class, x::open);
        x.number(s.number);
        Check.due("open() behind failures", x.open(), 33);
      }, after);
    }
  }

  /** 10: "(at -1: as it is); BOX stays: the length" */
  private static void backAsItIs() {
    int[] withs = {0, 1, 255, 256, -1, LEAST, MOST};
    for (int cipher = 0; cipher < 3; cipher++) {
      for (int with : withs) {
        Standing s = Standing.inUse(cipher);
        s.answers("back(-1, " + with + ")", x -> x.back(-1, with), 35, s.withTape(s.box));
      }
    }
    Standing empty = Standing.inUse(0).withTape(NOTHING);
    empty.answers("back(-1, 0) to the empty TAPE", x -> x.back(-1, 0), 35,
        empty.withTape(empty.box));
    Standing longer = Standing.inUse(0).withTape(Standing.drawn(200));
    longer.answers("back(-1, 0) to a longer TAPE", x -> x.back(-1, 0), 35,
        longer.withTape(longer.box));
    // The two must not be one row: what is fed to the TAPE leaves BOX as it is.
    Standing fed = Standing.inUse(0);
    fed.leaves("back, end and feed", x -> {
      x.back(-1, 0);
      x.end(3);
      x.feed(-1, -1, -1, -1, -1);
    }, fed.withTape(Check.joined(Standing.firstOf(fed.box, 3),
        Check.hex("ffffffff ffffffff ffffffff ffffffff ffffffff"))));
  }

  /** 10: "exclusive-or'ed with the low 8 bits of with" */
  private static void backLowBits() {
    int[][] due = {{0, 0}, {1, 1}, {0x80, 0x80}, {0xff, 0xff}, {0x100, 0}, {0x101, 1},
        {0x1ff, 0xff}, {-1, 0xff}, {-256, 0}, {LEAST, 0}, {MOST, 0xff}, {0x7fffff00, 0}};
    for (int[] row : due) {
      Standing s = Standing.inUse(1);
      s.answers("back(17, " + row[0] + ")", x -> x.back(17, row[0]), 35,
          s.withTape(Standing.changed(s.box, 17, row[1])));
    }
  }

  /** 10: "byte at of it": the first, the last and each between. */
  private static void backOfEndBytes() {
    for (int at = 0; at < 35; at++) {
      int k = at;
      Standing s = Standing.inUse(2);
      s.answers("back(" + k + ", 255)", x -> x.back(k, 255), 35,
          s.withTape(Standing.changed(s.box, k, 255)));
    }
  }

  /** 10: "IndexOutOfBoundsException: no such byte." */
  private static void backOfNoByte() {
    int[] wrong = {-2, 35, 36, 40, 64, -35, LEAST, MOST};
    for (int at : wrong) {
      for (int cipher = 0; cipher < 3; cipher++) {
        Standing.inUse(cipher).refuses("back(" + at + ", 1)", IndexOutOfBoundsException.class,
            x -> x.back(at, 1));
      }
    }
    // A BOX that was longer before has no more bytes than now.
    SealBox x = Standing.inUse(0).withTape(NOTHING).made();
    x.seal();
    Check.dueThrow("back(16, 1) of 16", IndexOutOfBoundsException.class, () -> x.back(16, 1));
    Check.due("back(15, 1) of 16", x.back(15, 1), 16);
  }

  /** 10: the same of the empty BOX. */
  private static void backOfEmptyBox() {
    Standing[] states = {Standing.noneInUse(), Standing.inUse(0, NOTHING),
        Standing.inUse(1, NOTHING), Standing.inUse(2, NOTHING)};
    for (Standing s : states) {
      s.answers("back(-1, 7) of nothing", x -> x.back(-1, 7), 0, s.withTape(NOTHING));
      s.refuses("back(0, 0) of nothing", IndexOutOfBoundsException.class, x -> x.back(0, 0));
      s.refuses("back(-2, 0) of nothing", IndexOutOfBoundsException.class, x -> x.back(-2, 0));
    }
  }

  /** 10: "BOX may be longer than a TAPE otherwise is" (more calls than the promised 512) */
  private static void backAboveLimit() {
    int[] lengths = {65_519, 65_520, 65_521, 65_536};
    for (int n : lengths) {
      Standing s = Standing.inUse(0).withTape(Standing.drawn(n));
      s.answers("seal() of " + n, SealBox::seal, n + 16, s.afterSeal());
      Standing sealed = s.afterSeal();
      s.leaves("seal() and back", x -> {
        x.seal();
        Check.due("back behind seal() of " + n, x.back(n + 15, 3), n + 16);
      }, sealed.withTape(Standing.changed(sealed.box, n + 15, 3)));
      s.leaves("seal() and back to no byte", x -> {
        x.seal();
        Check.dueThrow("back of no byte", IndexOutOfBoundsException.class,
            () -> x.back(n + 16, 3));
      }, sealed);
    }
  }

  /** 10: "such a TAPE is taken as any other one" */
  private static void backAboveLimitTaken() {
    for (int cipher = 0; cipher < 3; cipher++) {
      byte[] text = Standing.drawn(65_536);
      Standing s = Standing.sealedAndBack(cipher, text);
      s.answers("beside() above the limit", SealBox::beside, 65_552, s.afterBeside());
      s.answers("seal() above the limit", SealBox::seal, 65_568, s.afterSeal());
      s.refuses("iv() above the limit", IllegalArgumentException.class, SealBox::iv);
      s.refuses("use(1) above the limit", IllegalArgumentException.class, x -> x.use(1));
      s.refuses("open() above the limit", UnsupportedOperationException.class, SealBox::open,
          s.afterFailure(1));
      int[] ends = {65_552, 65_551, 65_537, 65_536, 65_535, 0};
      for (int n : ends) {
        s.answers("end above the limit", x -> x.end(n), n,
            s.withTape(Standing.firstOf(s.tape, n)));
      }
      s.refuses("end(65553)", IllegalArgumentException.class, x -> x.end(65_553));
      Standing right = s.withNumber(2).withBeside(NOTHING);
      right.iv = new byte[12];
      right.answers("open() above the limit", SealBox::open, 65_536, right.afterOpen(text));
    }
  }

  /** 10: the same again and again, as often as 512 calls could. */
  private static void backAboveLimitAgain() {
    for (int cipher = 0; cipher < 3; cipher++) {
      SealBox x = Standing.inUse(cipher).withTape(Standing.drawn(65_536)).made();
      for (int n = 65_552; n <= 65_536 + 256 * 16; n += 16) {
        Check.due("seal above the limit", x.seal(), n);
        Check.due("back above the limit", x.back(-1, 0), n);
      }
      Check.dueThrow("feed above it", IllegalStateException.class, () -> x.feed(0, 0, 0, 0, 0));
    }
  }

  /** 10: "but there is no room to feed" */
  private static void backAboveLimitNotFed() {
    Standing just = Standing.sealedAndBack(0, Standing.drawn(65_521));
    just.refuses("feed at 65537", IllegalStateException.class, x -> x.feed(1, 2, 3, 4, 5));
    Standing full = Standing.sealedAndBack(1, Standing.drawn(65_536));
    full.refuses("feed at 65552", IllegalStateException.class, x -> x.feed(1, 2, 3, 4, 5));
    full.answers("end and feed behind it", x -> {
      Check.dueThrow("feed above the limit", IllegalStateException.class,
          () -> x.feed(1, 2, 3, 4, 5));
      x.end(65_516);
      return x.feed(0, 0, 0, 0, 0);
    }, 65_536, full.withTape(Check.joined(Standing.firstOf(full.tape, 65_516), new byte[20])));
  }

  /** 11: "Byte i of BOX, 0 .. 255." */
  private static void boxValues() {
    byte[] all = new byte[256];
    for (int i = 0; i < 256; i++) {
      all[i] = (byte) i;
    }
    for (int cipher = 0; cipher < 3; cipher++) {
      Standing s = Standing.inUse(cipher, all);
      for (int i = 0; i < 256; i++) {
        Check.due("box(" + i + ")", s.made().box(i), i);
      }
      s.answers("box(255)", x -> x.box(255), 255, s);
      s.answers("box(0)", x -> x.box(0), 0, s);
      s.refuses("box(256)", IndexOutOfBoundsException.class, x -> x.box(256));
    }
  }

  /** 11: "IndexOutOfBoundsException: there is none." */
  private static void boxOfNoByte() {
    int[] wrong = {-1, 35, 36, 40, 64, -35, LEAST, MOST};
    for (int i : wrong) {
      for (int cipher = 0; cipher < 3; cipher++) {
        Standing.inUse(cipher).refuses("box(" + i + ")", IndexOutOfBoundsException.class,
            x -> x.box(i));
      }
    }
    int[] ofNothing = {-1, 0, 1, 16};
    for (int i : ofNothing) {
      Standing.noneInUse().refuses("box(" + i + ") of nothing", IndexOutOfBoundsException.class,
          x -> x.box(i));
      Standing.inUse(2, NOTHING).refuses("box(" + i + ") of nothing",
          IndexOutOfBoundsException.class, x -> x.box(i));
    }
    SealBox x = Standing.inUse(0).withTape(NOTHING).made();
    x.seal();
    Check.dueThrow("box(16) where 35 were", IndexOutOfBoundsException.class, () -> x.box(16));
  }

  /** 12: each of the eight, told from one another by their values; asking changes nothing. */
  private static void countOfEach() {
    SealBox x = Check.ready(1, Standing.drawnKey(1), new byte[12], Standing.drawn(3));
    for (int k = 0; k < 4; k++) {
      x.seal();
    }
    for (int k = 0; k < 6; k++) {
      Check.dueThrow("open()", UnsupportedOperationException.class, x::open);
    }
    for (int k = 4; k < 9; k++) {
      Check.tape(x, Library.sealed(1, Standing.drawnKey(1), Library.nonce(new byte[12], k),
          Standing.drawn(3), Standing.drawn(7)));
      x.open();
    }
    Check.tape(x, Standing.drawn(8));
    int[] due = {8, 7, 3, 1, 1 + 4 + 10, 4, 5, 6};
    for (int round = 0; round < 2; round++) {
      for (int what = 0; what < 8; what++) {
        Check.due("count(" + what + ")", x.count(what), due[what]);
      }
    }
    for (int what = -1; what < 9; what++) {
      int k = what;
      Standing s = Standing.inUse(0);
      s.leaves("count(" + k + ")", y -> y.count(k), s);
    }
  }

  /** 12: "Else -1." */
  private static void countElse() {
    int[] others = {-1, -2, 8, 9, 10, 256, 263, LEAST, LEAST + 7, MOST};
    Standing[] states = {Standing.noneInUse(), Standing.inUse(0), Standing.inUse(2)};
    for (int what : others) {
      for (Standing s : states) {
        s.answers("count(" + what + ")", x -> x.count(what), -1, s);
      }
      Check.due("count(" + what + ") of a new object", new SealBox().count(what), -1);
    }
    Check.due("count(7) of a new object", new SealBox().count(7), 0);
  }

  /** 13: "NUMBER.", which asking for it does not change. */
  private static void numberedAnyLong() {
    long[] numbers = {0, 1, -1, MOST, LEAST, 1L << 32, Long.MAX_VALUE, Long.MIN_VALUE};
    for (long n : numbers) {
      Standing s = Standing.inUse(2).withNumber(n);
      s.leaves("numbered()", x -> {
        Check.due("numbered()", x.numbered(), n);
        Check.due("numbered() again", x.numbered(), n);
      }, s);
    }
  }
}
