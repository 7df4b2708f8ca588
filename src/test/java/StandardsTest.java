/** The ciphers bit for bit: vectors of the standards, and the Java library's own ciphers. */
public final class StandardsTest {
  private static final byte[] NOTHING = new byte[0];

  public static void main(String[] args) {
    gcmVectors();
    chaChaVector();
    polyEdges();
    againstLibrary();
    Check.finish();
  }

  private static void vector(String name, int cipher, String[] parts) {
    byte[] text = Check.hex(parts[3]);
    byte[] record = Check.hex(parts[4]);
    SealBox x = Check.ready(cipher, Check.hex(parts[0]), Check.hex(parts[1]), Check.hex(parts[2]));
    Check.tape(x, text);
    Check.due(name + " seal", x.seal(), record.length);
    Check.due(name + " sealed", Check.box(x), record);
    x.number(0);
    x.back(-1, 0);
    Check.due(name + " open", x.open(), text.length);
    Check.due(name + " opened", Check.box(x), text);
  }

  /** Test cases 1 to 4 and 13 to 16 of the paper that SP 800-38D stems from. */
  private static void gcmVectors() {
    String zeros16 = "00000000000000000000000000000000";
    String zeros12 = "000000000000000000000000";
    String key = "feffe9928665731c6d6a8f9467308308";
    String iv = "cafebabefacedbaddecaf888";
    String beside = "feedfacedeadbeeffeedfacedeadbeefabaddad2";
    String text = "d9313225f88406e5a55909c5aff5269a86a7a9531534f7da2e4c303d8a318a72"
        + "1c3c0c95956809532fcf0e2449a6b525b16aedf5aa0de657ba637b39";
    String sealed128 = "42831ec2217774244b7221b784d0d49ce3aa212f2c02a4e035c17e2329aca12e"
        + "21d514b25466931c7d8f6a5aac84aa051ba30b396a0aac973d58e091";
    String sealed256 = "522dc1f099567d07f47f37a32a84427d643a8cdcbfe5c0c97598a2bd2555d1aa"
        + "8cb08e48590dbb3da7b08b1056828838c5f61e6393ba7a0abcc9f662";
    vector("GCM 1", 0, new String[] {zeros16, zeros12, "", "", "58e2fccefa7e3061367f1d57a4e7455a"});
    vector("GCM 2", 0, new String[] {zeros16, zeros12, "", zeros16,
        "0388dace60b6a392f328c2b971b2fe78ab6e47d42cec13bdf53a67b21257bddf"});
    vector("GCM 3", 0, new String[] {key, iv, "", text + "1aafd255",
        sealed128 + "473f5985" + "4d5c2af327cd64a62cf35abd2ba6fab4"});
    vector("GCM 4", 0, new String[] {key, iv, beside, text,
        sealed128 + "5bc94fbc3221a5db94fae95ae7121a47"});
    vector("GCM 13", 1, new String[] {zeros16 + zeros16, zeros12, "", "",
        "530f8afbc74536b9a963b4f1c4cb738b"});
    vector("GCM 14", 1, new String[] {zeros16 + zeros16, zeros12, "", zeros16,
        "cea7403d4d606b6e074ec5d3baf39d18d0d1c8a799996bf0265b98b5d48ab919"});
    vector("GCM 15", 1, new String[] {key + key, iv, "", text + "1aafd255",
        sealed256 + "898015ad" + "b094dac5d93471bdec1a502270e3cc6c"});
    vector("GCM 16", 1, new String[] {key + key, iv, beside, text,
        sealed256 + "76fc6ece0f4e1768cddf8853bb2d551b"});
  }

  /** RFC 8439, 2.8.2. */
  private static void chaChaVector() {
    StringBuilder text = new StringBuilder();
    String words = "Ladies and Gentlemen of the class of '99: If I could offer you only one tip for"
        + " the future, sunscreen would be it.";
    for (char c : words.toCharArray()) {
      text.append(String.format("%02x", (int) c));
    }
    vector("RFC 8439 2.8.2", 2, new String[] {
        "808182838485868788898a8b8c8d8e8f909192939495969798999a9b9c9d9e9f",
        "070000004041424344454647", "50515253c0c1c2c3c4c5c6c7", text.toString(),
        "d31a8d34648e60db7b86afbc53ef7ec2a4aded51296e08fea9e2b5a736ee62d6"
            + "3dbea45e8ca9671282fafb69da92728b1a71de0a9e060b2905d6a5b67ecd3b36"
            + "92ddbd7f2d778b8c9803aee328091b58fab324e4fad675945585808b4831d7bc"
            + "3ff4def08e4b7a9de576d26586cec64b6116"
            + "1ae10b594f09e26a7e902ecbd0600691"});
  }

  private static void poly(String name, String key, String text, String want) {
    SealBox.Poly1305 hash = new SealBox.Poly1305();
    int[] words = words(key);
    hash.begin(words);
    int[] blocks = words(text);
    for (int i = 0; i < blocks.length; i += 4) {
      hash.absorb(blocks[i], blocks[i + 1], blocks[i + 2], blocks[i + 3]);
    }
    int[] tag = new int[4];
    hash.finish(tag);
    int[] wanted = words(want);
    for (int k = 0; k < 4; k++) {
      Check.due(name + " word " + k, tag[k], wanted[k]);
    }
  }

  private static int[] words(String hex) {
    int[] words = new int[hex.length() / 8];
    for (int i = 0; i < words.length; i++) {
      words[i] = Integer.parseUnsignedInt(hex.substring(8 * i, 8 * i + 8), 16);
    }
    return words;
  }

  /** RFC 8439, A.3, vectors 1 and 5 to 11: carries that no key of a real record comes to. */
  private static void polyEdges() {
    String zeros = "00000000000000000000000000000000";
    String ones = "ffffffffffffffffffffffffffffffff";
    String one = "01000000000000000000000000000000";
    String two = "02000000000000000000000000000000";
    poly("A.3 1", zeros + zeros, zeros + zeros + zeros + zeros, zeros);
    poly("A.3 5", two + zeros, ones, "03000000000000000000000000000000");
    poly("A.3 6", two + ones, two, "03000000000000000000000000000000");
    poly("A.3 7", one + zeros, ones + "f0ffffffffffffffffffffffffffffff"
        + "11000000000000000000000000000000", "05000000000000000000000000000000");
    poly("A.3 8", one + zeros, ones + "fbfefefefefefefefefefefefefefefe"
        + "01010101010101010101010101010101", zeros);
    poly("A.3 9", two + zeros, "fdffffffffffffffffffffffffffffff",
        "faffffffffffffffffffffffffffffff");
    String threeBlocks = "e33594d7505e43b900000000000000003394d7505e4379cd"
        + "010000000000000000000000000000000000000000000000";
    String key = "01000000000000000400000000000000" + zeros;
    poly("A.3 10", key, threeBlocks + "01000000000000000000000000000000",
        "14000000000000005500000000000000");
    poly("A.3 11", key, threeBlocks, "13000000000000000000000000000000");
  }

  private static void againstLibrary() {
    Check.Draw draw = new Check.Draw(1);
    for (int cipher = 0; cipher < 3; cipher++) {
      for (int n = 0; n <= 150; n++) {
        compare(draw, cipher, n, draw.below(3) == 0 ? 0 : draw.below(150));
        compare(draw, cipher, draw.below(40), n);
      }
      compare(draw, cipher, 5000, 7);
      compare(draw, cipher, 3, 5000);
      compare(draw, cipher, 10_000, 0);
    }
  }

  private static void compare(Check.Draw draw, int cipher, int textBytes, int besideBytes) {
    byte[] key = draw.bytes(cipher == 0 ? 16 : 32);
    byte[] iv = draw.bytes(12);
    byte[] beside = besideBytes == 0 ? NOTHING : draw.bytes(besideBytes);
    byte[] text = draw.bytes(textBytes);
    long number = draw.number();
    String name = "cipher " + cipher + ", " + textBytes + " bytes, beside " + besideBytes;
    byte[] record = Library.sealed(cipher, key, Library.nonce(iv, number), beside, text);
    SealBox x = Check.ready(cipher, key, iv, beside);
    x.number(number);
    Check.tape(x, text);
    Check.due(name + " seal", x.seal(), record.length);
    Check.due(name + " sealed", Check.box(x), record);
    x.number(number);
    x.back(draw.below(record.length), 1 << draw.below(8));
    Check.dueThrow(name + " open of a changed byte", UnsupportedOperationException.class, x::open);
    x.back(-1, 0);
    Check.due(name + " open", x.open(), text.length);
    Check.due(name + " opened", Check.box(x), text);
  }
}
