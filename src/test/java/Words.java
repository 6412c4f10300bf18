import java.math.BigInteger;
import java.util.ArrayList;
import java.util.Arrays;
import java.util.List;

/** The words of certificates, put together and changed. */
final class Words {
  static final int[] TWO = {1, 2};
  static final int[] THREE = {1, 3, 1, 2, 1, 1, 1, 2};
  static final int[] FIVE = {1, 5, 1, 2, 1, 2, 1, 2};
  static final int[] SEVEN = join(new int[] {1, 7, 1, 3, 2, 1}, TWO, new int[] {1}, THREE);

  private Words() { }

  static int[] join(int[]... parts) {
    int[] all = new int[0];
    for (int[] part : parts) {
      int before = all.length;
      all = Arrays.copyOf(all, before + part.length);
      System.arraycopy(part, 0, all, before, part.length);
    }
    return all;
  }

  static int[] without(int[] words, int at) {
    return join(Arrays.copyOf(words, at), Arrays.copyOfRange(words, at + 1, words.length));
  }

  static int[] with(int[] words, int at, int w) {
    int[] copy = words.clone();
    copy[at] = w;
    return copy;
  }

  static int[] limbs(BigInteger value) {
    int[] words = new int[1 + Checks.lengthOf(value)];
    words[0] = words.length - 1;
    for (int i = 1; i < words.length; i++) {
      words[i] = value.shiftRight(15 * (i - 1)).intValue() & 32767;
    }
    return words;
  }

  /** A node whose q, with their exponents, are the words of parts. */
  static int[] node(BigInteger p, BigInteger w, int kinds, int[]... parts) {
    return join(limbs(p), limbs(w), new int[] {kinds}, join(parts));
  }

  static int[] part(int exponent, int[] node) {
    return join(new int[] {exponent}, node);
  }

  /** The certificate of a prime of one or two limbs, by its least witness. */
  static int[] certificate(int p) {
    if (p == 2) {
      return TWO;
    }
    List<Integer> kinds = new ArrayList<>();
    int[] parts = new int[0];
    int left = p - 1;
    for (int q = 2; left > 1; q = (q + 1) * (q + 1) > left ? Math.max(q + 1, left) : q + 1) {
      int exponent = 0;
      for (; left % q == 0; left /= q) {
        exponent++;
      }
      if (exponent > 0) {
        parts = join(parts, part(exponent, certificate(q)));
        kinds.add(q);
      }
    }
    return node(Checks.big(p), leastRoot(Checks.big(p), kinds), kinds.size(), parts);
  }

  private static BigInteger leastRoot(BigInteger p, List<Integer> kinds) {
    BigInteger w = BigInteger.ONE;
    for (int k = 0; k < kinds.size(); k++) {
      BigInteger exponent = p.subtract(BigInteger.ONE).divide(Checks.big(kinds.get(k)));
      if (w.modPow(exponent, p).equals(BigInteger.ONE)) {
        w = w.add(BigInteger.ONE);
        k = -1;
      }
    }
    return w;
  }
}
