import java.util.Arrays;
import java.util.function.ToIntFunction;

/** All that an object holds by the document's Terms, to make one of it and to compare one with. */
final class Standing {
  static final byte[] NOTHING = new byte[0];

  private static final int LIMIT = 65_536;
  private static final byte[] LOOK_KEY = new Check.Draw(101).bytes(16);

  int cipher = -1;
  byte[] key = NOTHING;
  byte[] iv = new Check.Draw(102).bytes(12);
  byte[] beside = new Check.Draw(103).bytes(21);
  byte[] box = NOTHING;
  byte[] tape = new Check.Draw(104).bytes(40);
  long number = 77;
  int blocks = 0;
  int sealings = 0;
  int openings = 0;
  int failures = 0;
  private byte[] opened = NOTHING;
  private byte[] sealed = null;

  private Standing() {}

  interface Call {
    void on(SealBox x);
  }

  static Standing newObject() {
    Standing s = noneInUse();
    s.iv = new byte[12];
    s.beside = NOTHING;
    s.tape = NOTHING;
    s.number = 0;
    return s;
  }

  static Standing noneInUse() {
    return new Standing();
  }

  static Standing inUse(int cipher) {
    return inUse(cipher, new Check.Draw(105).bytes(35));
  }

  /** BOX is this text, opened. */
  static Standing inUse(int cipher, byte[] text) {
    Standing s = new Standing();
    s.cipher = cipher;
    s.key = drawnKey(cipher);
    s.opened = text;
    s.box = text;
    s.sealings = 1;
    s.openings = 1;
    s.failures = 1;
    s.blocks = blocksOfUse(cipher) + blocksOfText(cipher, 0) + blocksOfText(cipher, text.length);
    return s;
  }

  /** TAPE and BOX are this text, sealed: only so a TAPE comes to be longer than 65,536. */
  static Standing sealedAndBack(int cipher, byte[] text) {
    Standing s = inUse(cipher, NOTHING);
    s.sealed = text;
    s.sealings++;
    s.blocks += blocksOfText(cipher, text.length);
    s.box = Library.sealed(cipher, s.key, Library.nonce(new byte[12], 2), NOTHING, text);
    s.tape = s.box;
    return s;
  }

  static byte[] drawnKey(int cipher) {
    return new Check.Draw(106 + cipher).bytes(keyBytes(cipher));
  }

  static int keyBytes(int cipher) {
    return cipher == 0 ? 16 : 32;
  }

  static int blocksOfUse(int cipher) {
    return cipher == 2 ? 0 : 1;
  }

  static int blocksOfText(int cipher, int n) {
    int size = cipher == 2 ? 64 : 16;
    return 1 + (n + size - 1) / size;
  }

  Standing copy() {
    Standing s = new Standing();
    s.cipher = cipher;
    s.key = key;
    s.iv = iv;
    s.beside = beside;
    s.box = box;
    s.tape = tape;
    s.number = number;
    s.blocks = blocks;
    s.sealings = sealings;
    s.openings = openings;
    s.failures = failures;
    s.opened = opened;
    s.sealed = sealed;
    return s;
  }

  Standing withTape(byte[] bytes) {
    Standing s = copy();
    s.tape = bytes;
    return s;
  }

  Standing withNumber(long n) {
    Standing s = copy();
    s.number = n;
    return s;
  }

  Standing withBeside(byte[] bytes) {
    Standing s = copy();
    s.beside = bytes;
    return s;
  }

  Standing afterFailure(int blocksTurned) {
    Standing s = copy();
    s.failures++;
    s.blocks += blocksTurned;
    return s;
  }

  Standing afterUse(int newCipher) {
    Standing s = withTape(NOTHING).withNumber(0);
    s.cipher = newCipher;
    s.key = tape;
    s.blocks += blocksOfUse(newCipher);
    return s;
  }

  Standing afterIv() {
    Standing s = withTape(NOTHING).withNumber(0);
    s.iv = tape;
    return s;
  }

  Standing afterBeside() {
    return withTape(NOTHING).withBeside(tape);
  }

  Standing afterSeal() {
    Standing s = withTape(NOTHING).withNumber(number + 1);
    s.box = record(tape);
    s.sealings++;
    s.blocks += blocksOfText(cipher, tape.length);
    return s;
  }

  Standing afterOpen(byte[] text) {
    Standing s = withTape(NOTHING).withNumber(number + 1);
    s.box = text;
    s.openings++;
    s.blocks += blocksOfText(cipher, text.length);
    return s;
  }

  /** This text, sealed with all that stands here. */
  byte[] record(byte[] text) {
    return Library.sealed(cipher, key, Library.nonce(iv, number), beside, text);
  }

  SealBox made() {
    SealBox x = new SealBox();
    if (cipher >= 0) {
      bringBox(x);
    }
    Check.tape(x, iv);
    x.iv();
    Check.tape(x, beside);
    x.beside();
    x.number(number);
    if (tape.length > LIMIT) {
      x.back(-1, 0);
    } else {
      Check.tape(x, tape);
    }
    return x;
  }

  /** One opening fails and one sealing comes first, so that no count is 0. */
  private void bringBox(SealBox x) {
    Check.tape(x, key);
    x.use(cipher);
    Check.dueThrow("open() of nothing", UnsupportedOperationException.class, x::open);
    x.seal();
    Check.tape(x, Library.sealed(cipher, key, Library.nonce(new byte[12], 1), NOTHING, opened));
    x.open();
    if (sealed != null) {
      Check.tape(x, sealed);
      x.seal();
    }
  }

  /** Makes an object of this, makes the call and compares all that the object then holds. */
  void leaves(String what, Call call, Standing after) {
    // A look inside takes the object apart, so each look has one of its own.
    for (int look = 0; look < 3; look++) {
      SealBox x = made();
      call.on(x);
      after.dueOutside(what, x);
      after.dueInside(what, look, x);
    }
  }

  /** As leaves, but the answer is compared too. */
  void answers(String what, ToIntFunction<SealBox> call, int want, Standing after) {
    leaves(what, x -> Check.due(what, call.applyAsInt(x), want), after);
  }

  /** The call is refused with this exception, and all stays as it is. */
  void refuses(String what, Class<? extends RuntimeException> want, Call call) {
    refuses(what, want, call, this);
  }

  void refuses(String what, Class<? extends RuntimeException> want, Call call, Standing after) {
    leaves(what, x -> Check.dueThrow(what, want, () -> call.on(x)), after);
  }

  private void dueOutside(String what, SealBox x) {
    int[] counts = {tape.length, box.length, beside.length, cipher, blocks, sealings, openings,
        failures};
    for (int k = 0; k < counts.length; k++) {
      Check.due("count(" + k + ") behind " + what, x.count(k), counts[k]);
    }
    Check.due("numbered() behind " + what, x.numbered(), number);
    Check.due("BOX behind " + what, Check.box(x), box);
  }

  private void dueInside(String what, int look, SealBox x) {
    switch (look) {
      case 0: dueTapeAndIv(what, x); break;
      case 1: dueBesideAndIv(what, x); break;
      default: dueCipher(what, x); break;
    }
  }

  /** With a key of the look's own, for there may be none IN USE. */
  private void dueTapeAndIv(String what, SealBox x) {
    x.beside();
    dueLookSeal("TAPE and IV behind " + what, x, tape);
  }

  private void dueBesideAndIv(String what, SealBox x) {
    x.end(0);
    dueLookSeal("BESIDE and IV behind " + what, x, beside);
  }

  private void dueLookSeal(String what, SealBox x, byte[] vouched) {
    Check.tape(x, LOOK_KEY);
    x.use(0);
    x.seal();
    Check.due(what, Check.box(x), Library.sealed(0, LOOK_KEY, iv, vouched, NOTHING));
  }

  /** The object's own key, IV, NUMBER, BESIDE and TAPE together make the record. */
  private void dueCipher(String what, SealBox x) {
    if (cipher < 0) {
      Check.dueThrow("seal() behind " + what, IllegalStateException.class, x::seal);
      return;
    }
    Check.due("seal() behind " + what, x.seal(), tape.length + 16);
    Check.due("the record behind " + what, Check.box(x), record(tape));
    Check.due("numbered() behind seal() behind " + what, x.numbered(), number + 1);
  }

  static byte[] drawn(int n) {
    return new Check.Draw(1000 + n).bytes(n);
  }

  static byte[] changed(byte[] bytes, int at, int with) {
    byte[] other = bytes.clone();
    other[at] ^= (byte) with;
    return other;
  }

  static byte[] firstOf(byte[] bytes, int n) {
    return Arrays.copyOf(bytes, n);
  }
}
