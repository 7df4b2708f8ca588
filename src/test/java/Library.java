import java.security.GeneralSecurityException;
import javax.crypto.AEADBadTagException;
import javax.crypto.Cipher;
import javax.crypto.spec.GCMParameterSpec;
import javax.crypto.spec.IvParameterSpec;
import javax.crypto.spec.SecretKeySpec;

/** The same ciphers as the Java library has them, to compare with. */
final class Library {
  private Library() {}

  static byte[] nonce(byte[] iv, long number) {
    byte[] nonce = iv.clone();
    for (int i = 0; i < 8; i++) {
      nonce[4 + i] ^= (byte) (number >>> 56 - 8 * i);
    }
    return nonce;
  }

  static byte[] sealed(int cipher, byte[] key, byte[] nonce, byte[] beside, byte[] text) {
    try {
      return made(Cipher.ENCRYPT_MODE, cipher, key, nonce, beside).doFinal(text);
    } catch (GeneralSecurityException e) {
      throw new IllegalStateException(e);
    }
  }

  /** Null if it does not open. */
  static byte[] opened(int cipher, byte[] key, byte[] nonce, byte[] beside, byte[] record) {
    if (record.length < 16) {
      return null;
    }
    try {
      return made(Cipher.DECRYPT_MODE, cipher, key, nonce, beside).doFinal(record);
    } catch (AEADBadTagException e) {
      return null;
    } catch (GeneralSecurityException e) {
      throw new IllegalStateException(e);
    }
  }

  private static Cipher made(int mode, int cipher, byte[] key, byte[] nonce, byte[] beside)
      throws GeneralSecurityException {
    Cipher made = Cipher.getInstance(cipher == 2 ? "ChaCha20-Poly1305" : "AES/GCM/NoPadding");
    if (cipher == 2) {
      made.init(mode, new SecretKeySpec(key, "ChaCha20"), new IvParameterSpec(nonce));
    } else {
      made.init(mode, new SecretKeySpec(key, "AES"), new GCMParameterSpec(128, nonce));
    }
    made.updateAAD(beside);
    return made;
  }
}
