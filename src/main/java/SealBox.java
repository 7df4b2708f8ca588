import java.util.Arrays;
import java.util.NoSuchElementException;

/**
 * Records that are sealed and opened with a key, a sequence of nonces and bytes that are only
 * vouched for: AES-128-GCM, AES-256-GCM and ChaCha20-Poly1305.
 */
public final class SealBox {
  private static final int TAPE_LIMIT = 65_536;
  private static final int FEED_BYTES = 20;
  private static final int IV_BYTES = 12;
  private static final int TAG_BYTES = 16;
  private static final int CALLS = 512;
  // Above the limit only a seal makes a tape longer, by a tag: 512 calls never come beyond this.
  private static final int LONGEST_TEXT = TAPE_LIMIT + CALLS * TAG_BYTES;

  private static final int NONE = -1;
  private static final int AES_128 = 0;
  private static final int AES_256 = 1;
  private static final int CHACHA = 2;

  private static final long LOW_32 = 0xffffffffL;

  private static final int[] S_BOX = {
    0x63, 0x7c, 0x77, 0x7b, 0xf2, 0x6b, 0x6f, 0xc5, 0x30, 0x01, 0x67, 0x2b, 0xfe, 0xd7, 0xab, 0x76,
    0xca, 0x82, 0xc9, 0x7d, 0xfa, 0x59, 0x47, 0xf0, 0xad, 0xd4, 0xa2, 0xaf, 0x9c, 0xa4, 0x72, 0xc0,
    0xb7, 0xfd, 0x93, 0x26, 0x36, 0x3f, 0xf7, 0xcc, 0x34, 0xa5, 0xe5, 0xf1, 0x71, 0xd8, 0x31, 0x15,
    0x04, 0xc7, 0x23, 0xc3, 0x18, 0x96, 0x05, 0x9a, 0x07, 0x12, 0x80, 0xe2, 0xeb, 0x27, 0xb2, 0x75,
    0x09, 0x83, 0x2c, 0x1a, 0x1b, 0x6e, 0x5a, 0xa0, 0x52, 0x3b, 0xd6, 0xb3, 0x29, 0xe3, 0x2f, 0x84,
    0x53, 0xd1, 0x00, 0xed, 0x20, 0xfc, 0xb1, 0x5b, 0x6a, 0xcb, 0xbe, 0x39, 0x4a, 0x4c, 0x58, 0xcf,
    0xd0, 0xef, 0xaa, 0xfb, 0x43, 0x4d, 0x33, 0x85, 0x45, 0xf9, 0x02, 0x7f, 0x50, 0x3c, 0x9f, 0xa8,
    0x51, 0xa3, 0x40, 0x8f, 0x92, 0x9d, 0x38, 0xf5, 0xbc, 0xb6, 0xda, 0x21, 0x10, 0xff, 0xf3, 0xd2,
    0xcd, 0x0c, 0x13, 0xec, 0x5f, 0x97, 0x44, 0x17, 0xc4, 0xa7, 0x7e, 0x3d, 0x64, 0x5d, 0x19, 0x73,
    0x60, 0x81, 0x4f, 0xdc, 0x22, 0x2a, 0x90, 0x88, 0x46, 0xee, 0xb8, 0x14, 0xde, 0x5e, 0x0b, 0xdb,
    0xe0, 0x32, 0x3a, 0x0a, 0x49, 0x06, 0x24, 0x5c, 0xc2, 0xd3, 0xac, 0x62, 0x91, 0x95, 0xe4, 0x79,
    0xe7, 0xc8, 0x37, 0x6d, 0x8d, 0xd5, 0x4e, 0xa9, 0x6c, 0x56, 0xf4, 0xea, 0x65, 0x7a, 0xae, 0x08,
    0xba, 0x78, 0x25, 0x2e, 0x1c, 0xa6, 0xb4, 0xc6, 0xe8, 0xdd, 0x74, 0x1f, 0x4b, 0xbd, 0x8b, 0x8a,
    0x70, 0x3e, 0xb5, 0x66, 0x48, 0x03, 0xf6, 0x0e, 0x61, 0x35, 0x57, 0xb9, 0x86, 0xc1, 0x1d, 0x9e,
    0xe1, 0xf8, 0x98, 0x11, 0x69, 0xd9, 0x8e, 0x94, 0x9b, 0x1e, 0x87, 0xe9, 0xce, 0x55, 0x28, 0xdf,
    0x8c, 0xa1, 0x89, 0x0d, 0xbf, 0xe6, 0x42, 0x68, 0x41, 0x99, 0x2d, 0x0f, 0xb0, 0x54, 0xbb, 0x16
  };

  // What the four bits that fall out of a hash shifted by four come back as, at its top 16 bits.
  private static final int[] FOLD = {
    0x0000, 0x1c20, 0x3840, 0x2460, 0x7080, 0x6ca0, 0x48c0, 0x54e0,
    0xe100, 0xfd20, 0xd940, 0xc560, 0x9180, 0x8da0, 0xa9c0, 0xb5e0,
  };

  private final Row tape;
  private final Row beside;
  private final Row box;
  private final int[] iv;
  private final AesGcm aesGcm;
  private final ChaChaPoly chaChaPoly;
  private Cipher inUse;
  private int cipherInUse;
  private long number;
  private int sealings;
  private int openings;
  private int failures;

  public SealBox() {
    tape = new Row();
    beside = new Row();
    box = new Row();
    iv = new int[3];
    aesGcm = new AesGcm();
    chaChaPoly = new ChaChaPoly();
    inUse = null;
    cipherInUse = NONE;
    number = 0;
    sealings = 0;
    openings = 0;
    failures = 0;
  }

  public int feed(int a, int b, int c, int d, int e) throws IllegalStateException {
    int start = tape.length;
    if (start > TAPE_LIMIT - FEED_BYTES) {
      throw new IllegalStateException("the tape has no room for 20 bytes");
    }
    tape.resize(start + FEED_BYTES);
    tape.setWord(start, a);
    tape.setWord(start + 4, b);
    tape.setWord(start + 8, c);
    tape.setWord(start + 12, d);
    tape.setWord(start + 16, e);
    return tape.length;
  }

  public int end(int n) throws IllegalArgumentException {
    if (n < 0 || n > tape.length) {
      throw new IllegalArgumentException("the tape has no such length");
    }
    tape.resize(n);
    return n;
  }

  public void use(int cipher) throws NoSuchElementException, IllegalArgumentException {
    if (cipher != AES_128 && cipher != AES_256 && cipher != CHACHA) {
      throw new NoSuchElementException("no such cipher");
    }
    if (tape.length != (cipher == AES_128 ? 16 : 32)) {
      throw new IllegalArgumentException("the tape is no key of this cipher");
    }
    if (cipher == CHACHA) {
      chaChaPoly.takeKey(tape);
      inUse = chaChaPoly;
    } else {
      aesGcm.takeKey(tape);
      inUse = aesGcm;
    }
    cipherInUse = cipher;
    number = 0;
    tape.resize(0);
  }

  public void iv() throws IllegalArgumentException {
    if (tape.length != IV_BYTES) {
      throw new IllegalArgumentException("the tape has not 12 bytes");
    }
    for (int k = 0; k < 3; k++) {
      iv[k] = tape.word(4 * k, IV_BYTES);
    }
    number = 0;
    tape.resize(0);
  }

  public void number(long n) {
    number = n;
  }

  public int beside() {
    beside.copyFrom(tape);
    tape.resize(0);
    return beside.length;
  }

  public int seal() throws IllegalStateException {
    if (inUse == null) {
      throw new IllegalStateException("no cipher is in use");
    }
    int n = tape.length;
    if (n > LONGEST_TEXT) {
      // Only calls behind the 512th come here; their answers are free, but rows must not grow on.
      return -1;
    }
    box.resize(n + TAG_BYTES);
    inUse.setNonce(iv[0], iv[1], iv[2], number);
    inUse.turnText(tape, n, box);
    inUse.reckonTag(beside, box, n);
    inUse.writeTag(box, n);
    tape.resize(0);
    number++;
    sealings++;
    return box.length;
  }

  public int open() throws IllegalStateException, UnsupportedOperationException {
    if (inUse == null) {
      throw new IllegalStateException("no cipher is in use");
    }
    int n = tape.length - TAG_BYTES;
    inUse.setNonce(iv[0], iv[1], iv[2], number);
    if (n < 0 || !tagFits(inUse, n)) {
      failures++;
      throw new UnsupportedOperationException("the tape does not open");
    }
    box.resize(n);
    inUse.turnText(tape, n, box);
    tape.resize(0);
    number++;
    openings++;
    return n;
  }

  public int back(int at, int with) throws IndexOutOfBoundsException {
    if (at < -1 || at >= box.length) {
      throw new IndexOutOfBoundsException("the box has no such byte");
    }
    tape.copyFrom(box);
    if (at >= 0) {
      tape.set(at, tape.get(at) ^ with);
    }
    return tape.length;
  }

  public int box(int i) throws IndexOutOfBoundsException {
    if (i < 0 || i >= box.length) {
      throw new IndexOutOfBoundsException("the box has no such byte");
    }
    return box.get(i);
  }

  public int count(int what) {
    switch (what) {
      case 0: return tape.length;
      case 1: return box.length;
      case 2: return beside.length;
      case 3: return cipherInUse;
      case 4: return aesGcm.turned + chaChaPoly.turned;
      case 5: return sealings;
      case 6: return openings;
      case 7: return failures;
      default: return -1;
    }
  }

  public long numbered() {
    return number;
  }

  private boolean tagFits(Cipher cipher, int n) {
    cipher.reckonTag(beside, tape, n);
    return cipher.isTag(tape, n);
  }

  private static int rotated(int word, int bits) {
    return word << bits | word >>> (32 - bits);
  }

  private static int swapped(int word) {
    return word << 24 | (word & 0xff00) << 8 | word >>> 8 & 0xff00 | word >>> 24;
  }

  /** A row of bytes that grows; its words are four bytes each, the highest first. */
  private static final class Row {
    private static final int FIRST_ROOM = 64;

    private byte[] bytes = new byte[FIRST_ROOM];
    private int length = 0;

    /** Bytes that come with a greater length hold anything: the caller writes them. */
    void resize(int n) {
      if (n > bytes.length) {
        bytes = Arrays.copyOf(bytes, Math.max(n, 2 * bytes.length));
      }
      length = n;
    }

    void copyFrom(Row other) {
      resize(other.length);
      System.arraycopy(other.bytes, 0, bytes, 0, other.length);
    }

    int get(int i) {
      return i >= 0 && i < length ? bytes[i] & 255 : 0;
    }

    void set(int i, int value) {
      if (i >= 0 && i < length) {
        bytes[i] = (byte) value;
      }
    }

    /** The word at i, with 0 for its bytes from end on. */
    int word(int i, int end) {
      int word = 0;
      for (int k = i; k < i + 4; k++) {
        word = word << 8 | (k < end ? get(k) : 0);
      }
      return word;
    }

    void setWord(int i, int word) {
      set(i, word >>> 24);
      set(i + 1, word >>> 16);
      set(i + 2, word >>> 8);
      set(i + 3, word);
    }
  }

  /** What the ciphers have in common: a stream of blocks and a tag whose first block is its own. */
  private abstract static class Cipher {
    final int[] nonce = new int[3];
    final int[] block;
    final int[] tag = new int[4];
    private final int tagCounter;
    int turned = 0;

    Cipher(int blockWords, int tagCounter) {
      this.block = new int[blockWords];
      this.tagCounter = tagCounter;
    }

    abstract void takeKey(Row key);

    /** Leaves the stream's block of this counter in block. */
    abstract void turnBlock(int counter);

    /** Begins a tag; block holds the tag's own block. */
    abstract void beginTag();

    abstract void absorb(int a, int b, int c, int d);

    abstract void finishTag(int besideBytes, int textBytes);

    final void setNonce(int first, int second, int third, long number) {
      nonce[0] = first;
      nonce[1] = second ^ (int) (number >>> 32);
      nonce[2] = third ^ (int) number;
    }

    final void turnText(Row from, int n, Row to) {
      int counter = tagCounter;
      int at = 0;
      for (int i = 0; i < n; i++) {
        if (at == 0) {
          counter++;
          turnBlock(counter);
        }
        to.set(i, from.get(i) ^ block[at >> 2] >>> 24 - 8 * (at & 3));
        // Blocks have 16 or 64 bytes, so the mask brings it back to 0 behind the last.
        at = at + 1 & 4 * block.length - 1;
      }
    }

    final void reckonTag(Row beside, Row text, int n) {
      turnBlock(tagCounter);
      beginTag();
      absorbRow(beside, beside.length);
      absorbRow(text, n);
      finishTag(beside.length, n);
    }

    private void absorbRow(Row row, int end) {
      for (int i = 0; i < end; i += 16) {
        absorb(row.word(i, end), row.word(i + 4, end), row.word(i + 8, end), row.word(i + 12, end));
      }
    }

    final void writeTag(Row row, int at) {
      for (int k = 0; k < 4; k++) {
        row.setWord(at + 4 * k, tag[k]);
      }
    }

    final boolean isTag(Row row, int at) {
      int difference = 0;
      for (int k = 0; k < 4; k++) {
        difference |= row.word(at + 4 * k, at + TAG_BYTES) ^ tag[k];
      }
      return difference == 0;
    }
  }

  private static final class AesGcm extends Cipher {
    private final Aes aes = new Aes();
    private final Ghash hash = new Ghash();
    private final int[] mask = new int[4];

    AesGcm() {
      super(4, 1);
    }

    void takeKey(Row key) {
      aes.expandKey(key);
      turned++;
      aes.turn(0, 0, 0, 0, block);
      hash.setKey(block[0], block[1], block[2], block[3]);
    }

    void turnBlock(int counter) {
      turned++;
      aes.turn(nonce[0], nonce[1], nonce[2], counter, block);
    }

    void beginTag() {
      System.arraycopy(block, 0, mask, 0, 4);
      hash.begin();
    }

    void absorb(int a, int b, int c, int d) {
      hash.absorb(a, b, c, d);
    }

    void finishTag(int besideBytes, int textBytes) {
      // No row comes near 2^28 bytes, so its bits need only the lower word of each length.
      hash.absorb(0, 8 * besideBytes, 0, 8 * textBytes);
      tag[0] = (int) (hash.high >>> 32) ^ mask[0];
      tag[1] = (int) hash.high ^ mask[1];
      tag[2] = (int) (hash.low >>> 32) ^ mask[2];
      tag[3] = (int) hash.low ^ mask[3];
    }
  }

  /** AES with keys of 16 or 32 bytes (FIPS 197); a word is a column of the state. */
  private static final class Aes {
    private final int[] roundKeys = new int[60];
    private int rounds = 0;

    void expandKey(Row key) {
      int keyWords = key.length == 16 ? 4 : 8;
      rounds = keyWords + 6;
      for (int k = 0; k < keyWords; k++) {
        roundKeys[k] = key.word(4 * k, key.length);
      }
      int constant = 1 << 24;
      for (int k = keyWords; k < 4 * (rounds + 1); k++) {
        int last = roundKeys[k - 1];
        if (k % keyWords == 0) {
          int turnedLast = rotated(last, 8);
          last = substituted(turnedLast, turnedLast, turnedLast, turnedLast) ^ constant;
          constant = doubled(constant);
        } else if (k % keyWords == 4) {
          last = substituted(last, last, last, last);
        }
        roundKeys[k] = roundKeys[k - keyWords] ^ last;
      }
    }

    void turn(int a, int b, int c, int d, int[] to) {
      int w = a ^ roundKeys[0];
      int x = b ^ roundKeys[1];
      int y = c ^ roundKeys[2];
      int z = d ^ roundKeys[3];
      int k = 4;
      for (int round = 1; round < rounds; round++) {
        int nextW = mixed(substituted(w, x, y, z)) ^ roundKeys[k];
        int nextX = mixed(substituted(x, y, z, w)) ^ roundKeys[k + 1];
        int nextY = mixed(substituted(y, z, w, x)) ^ roundKeys[k + 2];
        z = mixed(substituted(z, w, x, y)) ^ roundKeys[k + 3];
        w = nextW;
        x = nextX;
        y = nextY;
        k += 4;
      }
      to[0] = substituted(w, x, y, z) ^ roundKeys[k];
      to[1] = substituted(x, y, z, w) ^ roundKeys[k + 1];
      to[2] = substituted(y, z, w, x) ^ roundKeys[k + 2];
      to[3] = substituted(z, w, x, y) ^ roundKeys[k + 3];
    }

    /** SubBytes and ShiftRows for one column: a byte of each of four columns. */
    private static int substituted(int a, int b, int c, int d) {
      return S_BOX[a >>> 24] << 24
          | S_BOX[b >>> 16 & 255] << 16
          | S_BOX[c >>> 8 & 255] << 8
          | S_BOX[d & 255];
    }

    /** MixColumns: 2a + 3b + c + d is 2(a + b) + b + c + d, for the four bytes at once. */
    private static int mixed(int column) {
      int next = rotated(column, 8);
      return doubled(column ^ next) ^ next ^ rotated(column, 16) ^ rotated(column, 24);
    }

    /** Each of the four bytes times 2 in AES's field. */
    private static int doubled(int word) {
      return (word & 0x7f7f7f7f) << 1 ^ (word >>> 7 & 0x01010101) * 0x1b;
    }
  }

  /** GCM's hash (SP 800-38D); the highest bit of high is the lowest power, as there. */
  private static final class Ghash {
    // The key times each of the 16 polynomials of four bits.
    private final long[] timesHigh = new long[16];
    private final long[] timesLow = new long[16];
    private long high = 0;
    private long low = 0;

    void setKey(int a, int b, int c, int d) {
      long keyHigh = joined(a, b);
      long keyLow = joined(c, d);
      for (int i = 8; i > 0; i >>= 1) {
        timesHigh[i] = keyHigh;
        timesLow[i] = keyLow;
        long fold = (keyLow & 1) * 0xe100;
        keyLow = keyLow >>> 1 | keyHigh << 63;
        keyHigh = keyHigh >>> 1 ^ fold << 48;
      }
      for (int i = 2; i < 16; i <<= 1) {
        for (int j = 1; j < i; j++) {
          timesHigh[i + j] = timesHigh[i] ^ timesHigh[j];
          timesLow[i + j] = timesLow[i] ^ timesLow[j];
        }
      }
    }

    void begin() {
      high = 0;
      low = 0;
    }

    void absorb(int a, int b, int c, int d) {
      long addedHigh = high ^ joined(a, b);
      long addedLow = low ^ joined(c, d);
      high = 0;
      low = 0;
      multiplyBy(addedLow);
      multiplyBy(addedHigh);
    }

    private void multiplyBy(long half) {
      for (int shift = 0; shift < 64; shift += 4) {
        int bits = (int) (half >>> shift) & 15;
        long fold = FOLD[(int) low & 15];
        low = (low >>> 4 | high << 60) ^ timesLow[bits];
        high = high >>> 4 ^ fold << 48 ^ timesHigh[bits];
      }
    }

    private static long joined(int first, int second) {
      return (long) first << 32 | second & LOW_32;
    }
  }

  /** ChaCha20 and Poly1305 together (RFC 8439). */
  private static final class ChaChaPoly extends Cipher {
    private static final int DOUBLE_ROUNDS = 10;

    private final int[] start = {
      0x61707865, 0x3320646e, 0x79622d32, 0x6b206574, 0, 0, 0, 0, 0, 0, 0, 0, 0, 0, 0, 0,
    };
    private final int[] state = new int[16];
    private final Poly1305 hash = new Poly1305();

    ChaChaPoly() {
      super(16, 0);
    }

    void takeKey(Row key) {
      for (int k = 0; k < 8; k++) {
        start[4 + k] = swapped(key.word(4 * k, key.length));
      }
    }

    void turnBlock(int counter) {
      turned++;
      start[12] = counter;
      for (int k = 0; k < 3; k++) {
        start[13 + k] = swapped(nonce[k]);
      }
      System.arraycopy(start, 0, state, 0, 16);
      for (int round = 0; round < DOUBLE_ROUNDS; round++) {
        for (int k = 0; k < 4; k++) {
          quarterRound(k, 4 + k, 8 + k, 12 + k);
        }
        for (int k = 0; k < 4; k++) {
          quarterRound(k, 4 + (k + 1 & 3), 8 + (k + 2 & 3), 12 + (k + 3 & 3));
        }
      }
      for (int k = 0; k < 16; k++) {
        block[k] = swapped(state[k] + start[k]);
      }
    }

    private void quarterRound(int a, int b, int c, int d) {
      state[a] += state[b];
      state[d] = rotated(state[d] ^ state[a], 16);
      state[c] += state[d];
      state[b] = rotated(state[b] ^ state[c], 12);
      state[a] += state[b];
      state[d] = rotated(state[d] ^ state[a], 8);
      state[c] += state[d];
      state[b] = rotated(state[b] ^ state[c], 7);
    }

    void beginTag() {
      hash.begin(block);
    }

    void absorb(int a, int b, int c, int d) {
      hash.absorb(a, b, c, d);
    }

    void finishTag(int besideBytes, int textBytes) {
      hash.absorb(swapped(besideBytes), 0, swapped(textBytes), 0);
      hash.finish(tag);
    }
  }

  /** Poly1305 over whole blocks of 16 bytes; a number is five limbs of 26 bits, lowest first. */
  static final class Poly1305 {
    private static final long LIMB = 0x3ffffff;

    private final long[] key = new long[5];
    // A limb that is pushed out above 130 bits comes back at the bottom times 5.
    private final long[] keyTimes5 = new long[5];
    private final long[] sum = new long[5];
    private final long[] product = new long[5];
    private final int[] pad = new int[4];

    /** The key is the first 8 words of this row, as bytes in the order of the stream. */
    void begin(int[] words) {
      Arrays.fill(sum, 0);
      Arrays.fill(key, 0);
      addTo(key, swapped(words[0]) & 0x0fffffff, swapped(words[1]) & 0x0ffffffc,
          swapped(words[2]) & 0x0ffffffc, swapped(words[3]) & 0x0ffffffc);
      for (int i = 0; i < 5; i++) {
        keyTimes5[i] = 5 * key[i];
      }
      for (int k = 0; k < 4; k++) {
        pad[k] = swapped(words[4 + k]);
      }
    }

    void absorb(int a, int b, int c, int d) {
      addTo(sum, swapped(a), swapped(b), swapped(c), swapped(d));
      sum[4] += 1 << 24;
      for (int i = 0; i < 5; i++) {
        product[i] = productLimb(i);
      }
      System.arraycopy(product, 0, sum, 0, 5);
      carry();
    }

    private static void addTo(long[] limbs, int a, int b, int c, int d) {
      long first = a & LOW_32;
      long second = b & LOW_32;
      long third = c & LOW_32;
      long fourth = d & LOW_32;
      limbs[0] += first & LIMB;
      limbs[1] += (second << 32 | first) >>> 26 & LIMB;
      limbs[2] += (third << 32 | second) >>> 20 & LIMB;
      limbs[3] += (fourth << 32 | third) >>> 14 & LIMB;
      limbs[4] += fourth >>> 8;
    }

    private long productLimb(int i) {
      long total = 0;
      for (int j = 0; j <= i; j++) {
        total += sum[j] * key[i - j];
      }
      for (int j = i + 1; j < 5; j++) {
        total += sum[j] * keyTimes5[i + 5 - j];
      }
      return total;
    }

    private void carry() {
      long over = 0;
      for (int i = 0; i < 5; i++) {
        long limb = sum[i] + over;
        sum[i] = limb & LIMB;
        over = limb >>> 26;
      }
      sum[0] += 5 * over;
      sum[1] += sum[0] >>> 26;
      sum[0] &= LIMB;
    }

    void finish(int[] tag) {
      // The last block may have left a limb above its 26 bits.
      carry();
      reduce();
      long carried = 0;
      for (int k = 0; k < 4; k++) {
        long word = (sum[k] >>> 6 * k | sum[k + 1] << 26 - 6 * k) & LOW_32;
        carried += word + (pad[k] & LOW_32);
        tag[k] = swapped((int) carried);
        carried >>>= 32;
      }
    }

    /** Takes 2^130 - 5 off once if the sum is not below it. */
    private void reduce() {
      long over = 5;
      for (int i = 0; i < 5; i++) {
        long limb = sum[i] + over;
        product[i] = limb & LIMB;
        over = limb >>> 26;
      }
      if (over > 0) {
        System.arraycopy(product, 0, sum, 0, 5);
      }
    }
  }
}
