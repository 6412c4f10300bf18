import java.math.BigInteger;

/** Promises 26 to 30: words, and certificates that are checked and made. */
public final class CertificateTest {
  private static final int NONE = -1;
  private static final int BAD_HANDLE = -2;
  private static final int BAD_ARG = -3;
  private static final int NO_ROOM = -4;
  private static final int FULL = -9;
  private static final int VALID = 0;
  private static final int INVALID = 1;
  private static final int MALFORMED = 2;

  private static final int[] TWO = Words.TWO;
  private static final int[] THREE = Words.THREE;
  private static final int[] SEVEN = Words.SEVEN;

  public static void main(String[] args) {
    word();
    told();
    clear();
    checkSmall();
    checkWrongParts();
    checkMalformed();
    checkDeep();
    checkLong();
    checkLongInOneAnother();
    checkBoundaries();
    checkTakes();
    proveSmall();
    proveAnswers();
    proveFull();
    proveAllBelow();
    Checks.finish();
  }

  private static void check(String what, BigInteger p, int[] words, int due) {
    NumberArena x = Checks.arena(800, 400, 64);
    Checks.set(x, 0, p);
    Checks.words(x, words);
    Checks.due("check of " + what, x.check(0), due);
    Checks.due("no words then", x.about(4), 0);
    Checks.due("its number is as it was", Checks.get(x, 0), p);
  }

  private static void check(String what, long p, int[] words, int due) {
    check(what, Checks.big(p), words, due);
  }

  private static void word() {
    NumberArena x = new NumberArena(1, 16, 8);
    Checks.due("word(0)", x.word(0), 1);
    Checks.due("word(32767)", x.word(32767), 2);
    Checks.due("word(-1)", x.word(-1), BAD_ARG);
    Checks.due("word(32768)", x.word(32768), BAD_ARG);
    Checks.due("word(MIN)", x.word(Integer.MIN_VALUE), BAD_ARG);
    for (int i = 3; i <= 8; i++) {
      Checks.due("word", x.word(i), i);
    }
    Checks.due("there are W", x.word(1), FULL);
    Checks.due("BAD_ARG ahead of FULL", x.word(-1), BAD_ARG);
    Checks.due("about(4)", x.about(4), 8);
  }

  private static void told() {
    NumberArena x = new NumberArena(1, 16, 8);
    Checks.words(x, 5, 32767, 0);
    int[] due = {5, 32767, 0, NONE, NONE};
    for (int i = 0; i < due.length; i++) {
      Checks.due("told(" + i + ")", x.told(i), due[i]);
    }
    Checks.due("told(-1)", x.told(-1), NONE);
    Checks.due("told(8)", x.told(8), NONE);
    Checks.due("told(MAX)", x.told(Integer.MAX_VALUE), NONE);
    Checks.due("told(MIN)", x.told(Integer.MIN_VALUE), NONE);
  }

  private static void clear() {
    NumberArena x = new NumberArena(1, 16, 8);
    Checks.due("of none", x.clear(), 0);
    Checks.words(x, 5, 6, 7);
    Checks.due("of three", x.clear(), 3);
    Checks.due("none then", x.about(4), 0);
    Checks.due("none is told", x.told(0), NONE);
    Checks.due("of none", x.clear(), 0);
  }

  private static void checkSmall() {
    check("2", 2, TWO, VALID);
    check("3", 3, THREE, VALID);
    check("7", 7, SEVEN, VALID);
    check("2 for 3", 3, TWO, INVALID);
    check("3 for 2", 2, THREE, INVALID);
    check("7 for 0", 0, SEVEN, INVALID);
    check("7 for 7 + 2^15", 7 + 32768, SEVEN, INVALID);
    check("65537", 65537, new int[] {2, 1, 2, 1, 3, 1, 16, 1, 2}, VALID);
    check("65537 by 2, no root", 65537, new int[] {2, 1, 2, 1, 2, 1, 16, 1, 2}, INVALID);
    check("65537 by 75", 65537, new int[] {2, 1, 2, 1, 75, 1, 16, 1, 2}, VALID);
    check("65537, 2^15", 65537, new int[] {2, 1, 2, 1, 3, 1, 15, 1, 2}, INVALID);
    check("65537, 2^960", 65537, new int[] {2, 1, 2, 1, 3, 1, 960, 1, 2}, INVALID);
    NumberArena x = Checks.arena(40, 20, 1);
    Checks.words(x, TWO);
    for (int h : new int[] {1, -1, 24, Integer.MIN_VALUE}) {
      Checks.due("check(" + h + ")", x.check(h), BAD_HANDLE);
    }
    Checks.due("the words are there", x.about(4), 2);
  }

  private static void checkWrongParts() {
    check("7 by 5", 7, Words.with(SEVEN, 3, 5), VALID);
    check("7 by 1", 7, Words.with(SEVEN, 3, 1), INVALID);
    check("7 by 2, whose cube is 1", 7, Words.with(SEVEN, 3, 2), INVALID);
    check("7 by 6, whose square is 1", 7, Words.with(SEVEN, 3, 6), INVALID);
    check("7 by 10, not below p", 7, Words.with(SEVEN, 3, 10), INVALID);
    check("7 by 7", 7, Words.with(SEVEN, 3, 7), INVALID);
    check("7, 2 to the 2", 7, Words.with(SEVEN, 5, 2), INVALID);
    check("7, the inner 3 by 1", 7, Words.with(SEVEN, 12, 1), INVALID);
    check("7, falling", 7, Words.join(new int[] {1, 7, 1, 3, 2, 1}, THREE, new int[] {1}, TWO), INVALID);
    check("5, 2 twice", 5, Words.join(new int[] {1, 5, 1, 2, 2, 1}, TWO, new int[] {1}, TWO), INVALID);
    check("5", 5, Words.join(new int[] {1, 5, 1, 2, 1, 2}, TWO), VALID);
    check("7 by 2 alone", 7, Words.join(new int[] {1, 7, 1, 3, 1, 1}, TWO), INVALID);
    check("9 by 2^3", 9, Words.join(new int[] {1, 9, 1, 2, 1, 3}, TWO), INVALID);
    check("15 by 2 and 7", 15, Words.join(new int[] {1, 15, 1, 2, 2, 1}, TWO, new int[] {1}, SEVEN), INVALID);
    check("4 by 3", 4, Words.join(new int[] {1, 4, 1, 3, 1, 1}, THREE), INVALID);
    check("3 by itself", 3, Words.join(new int[] {1, 3, 1, 2, 1, 1}, THREE), INVALID);
    int[] one = Words.join(new int[] {1, 1, 1, 1, 1, 1}, TWO);
    check("1", 1, one, INVALID);
    check("3 by 1 and 2", 3, Words.join(new int[] {1, 3, 1, 2, 2, 1}, one, new int[] {1}, TWO), INVALID);
    check("2 by 1 to the 960", 3, Words.join(new int[] {1, 3, 1, 2, 1, 960}, one), INVALID);
    // 13 - 1 is 12 by 4 and 3, were 4 a prime.
    int[] four = Words.join(new int[] {1, 4, 1, 3, 1, 1}, THREE);
    check("13 by 3 and 4", 13, Words.join(new int[] {1, 13, 1, 2, 2, 1}, THREE, new int[] {1}, four), INVALID);
    check("13 by 2 and 3", 13, Words.join(new int[] {1, 13, 1, 2, 2, 2}, TWO, new int[] {1}, THREE), VALID);
    check("561, a Carmichael number", 561, Words.join(new int[] {1, 561, 1, 2, 3, 4}, TWO, new int[] {1},
        Words.join(new int[] {1, 5, 1, 2, 1, 2}, TWO), new int[] {1}, SEVEN), INVALID);
  }

  private static void checkMalformed() {
    check("none", 2, new int[0], MALFORMED);
    check("2 and more", 2, new int[] {1, 2, 1}, MALFORMED);
    check("7 and more", 7, Words.join(SEVEN, new int[] {0}), MALFORMED);
    for (int i = 0; i < SEVEN.length; i++) {
      check("7 cut", 7, java.util.Arrays.copyOf(SEVEN, i), MALFORMED);
    }
    for (int i = 1; i < SEVEN.length; i++) {
      check("7 without word " + i, 7, Words.without(SEVEN, i), MALFORMED);
    }
    check("no limbs", 7, Words.with(SEVEN, 0, 0), MALFORMED);
    check("a highest limb of 0", 7, Words.with(SEVEN, 1, 0), MALFORMED);
    check("a witness without limbs", 7, Words.with(SEVEN, 2, 0), MALFORMED);
    check("a witness of 0", 7, Words.with(SEVEN, 3, 0), MALFORMED);
    check("K 0", 7, Words.with(SEVEN, 4, 0), MALFORMED);
    check("K 21", 7, Words.with(SEVEN, 4, 21), MALFORMED);
    check("E 0", 7, Words.with(SEVEN, 5, 0), MALFORMED);
    check("E 961", 7, Words.with(SEVEN, 5, 961), MALFORMED);
    check("E 960", 7, Words.with(SEVEN, 5, 960), INVALID);
    check("an inner K 0", 7, Words.with(SEVEN, 13, 0), MALFORMED);
    check("2 with a witness", 2, new int[] {1, 2, 1, 1, 1, 1, 1, 2}, MALFORMED);
    check("2 in two limbs", 2, new int[] {2, 2, 0}, MALFORMED);
  }

  private static int[] chainOfThrees(int threes) {
    int[] words = TWO;
    for (int i = 0; i < threes; i++) {
      words = Words.join(new int[] {1, 3, 1, 2, 1, 1}, words);
    }
    return words;
  }

  private static void checkDeep() {
    check("12 open nodes", 3, chainOfThrees(11), INVALID);
    check("13 open nodes", 3, chainOfThrees(12), MALFORMED);
    check("40 open nodes", 3, chainOfThrees(39), MALFORMED);
    // 1266767 has a certificate with twelve open nodes, made here and fed again.
    NumberArena x = Checks.arena(100, 400, 2);
    Checks.set(x, 0, 1266767);
    Checks.due("prove", x.prove(0), 128);
    Checks.due("check", x.check(0), VALID);
  }

  // The prime 3 * 2^k + 1, a node with two q, and a certificate over it.
  private static void checkLong() {
    for (int k : new int[] {189, 201, 276, 353, 408, 438, 534}) {
      BigInteger p = Checks.power(2, k).multiply(Checks.big(3)).add(BigInteger.ONE);
      for (int w = 2; w < 12; w++) {
        BigInteger half = Checks.big(w).modPow(p.shiftRight(1), p);
        BigInteger third = Checks.big(w).modPow(p.divide(Checks.big(3)), p);
        boolean good = p.subtract(BigInteger.ONE).equals(half) && !third.equals(BigInteger.ONE);
        int[] words = Words.join(Words.limbs(p), new int[] {1, w, 2, k}, TWO, new int[] {1}, THREE);
        if (w % 4 == 1 || good) {
          check("3 * 2^" + k + " + 1 by " + w, p, words, good ? VALID : INVALID);
        }
      }
    }
  }

  // A prime of 203 bits over one of 191.
  private static void checkLongInOneAnother() {
    BigInteger two = Checks.big(2);
    BigInteger three = Checks.big(3);
    BigInteger p = Checks.power(2, 189).multiply(three).add(BigInteger.ONE);
    BigInteger r = p.multiply(Checks.big(64 * 27)).add(BigInteger.ONE);
    int[] inner = Words.join(Words.limbs(p), Words.limbs(leastRoot(p, two, three)),
        new int[] {2, 189}, TWO, new int[] {1}, THREE);
    BigInteger least = leastRoot(r, two, three, p);
    check("64 * 27 * (3 * 2^189 + 1) + 1", r, over(r, least, inner), VALID);
    int[] wrong = inner.clone();
    wrong[3]++;
    check("the same with a wrong limb within", r, over(r, least, wrong), INVALID);
    int valid = 0;
    for (int k = 1; k < 12; k++) {
      BigInteger w = r.subtract(Checks.big(k));
      boolean good = isRoot(w, r, two, three, p);
      valid += good ? 1 : 0;
      check("the same by a long witness", r, over(r, w, inner), good ? VALID : INVALID);
    }
    Checks.due("some of them are good, some not", valid > 0 && valid < 11, true);
  }

  private static int[] over(BigInteger r, BigInteger w, int[] inner) {
    return Words.join(Words.limbs(r), Words.limbs(w), new int[] {3, 6}, TWO, new int[] {3}, THREE, new int[] {1}, inner);
  }

  private static boolean isRoot(BigInteger w, BigInteger p, BigInteger... factors) {
    BigInteger before = p.subtract(BigInteger.ONE);
    for (BigInteger q : factors) {
      if (w.modPow(before.divide(q), p).equals(BigInteger.ONE)) {
        return false;
      }
    }
    return w.modPow(before, p).equals(BigInteger.ONE);
  }

  private static BigInteger leastRoot(BigInteger p, BigInteger... factors) {
    for (int w = 1; w < 1000; w++) {
      if (isRoot(Checks.big(w), p, factors)) {
        return Checks.big(w);
      }
    }
    return BigInteger.ONE;
  }

  // 64 limbs, 20 q, an exponent of 960: what is still a certificate by its form.
  private static void checkBoundaries() {
    int[] long64 = new int[65];
    java.util.Arrays.fill(long64, 32767);
    long64[0] = 64;
    BigInteger highest = Checks.power(2, 960).subtract(BigInteger.ONE);
    int[] tail = Words.join(new int[] {1}, new int[] {960}, TWO);
    check("64 limbs", highest, Words.join(long64, long64, tail), INVALID);
    check("65 limbs", highest, Words.join(Words.with(long64, 0, 65), new int[] {1}, long64, tail), MALFORMED);
    int[] many = {1, 7, 1, 3, 20};
    for (int i = 0; i < 20; i++) {
      many = Words.join(many, new int[] {1}, TWO);
    }
    check("20 q", 7, many, INVALID);
    check("21 q", 7, Words.join(Words.with(many, 4, 21), new int[] {1}, TWO), MALFORMED);
    int[] great = Words.join(long64, new int[] {1, 3, 3});
    for (int k = 1; k <= 3; k++) {
      great = Words.join(great, new int[] {960}, Words.with(long64, 1, k), new int[] {1, 3}, tail);
    }
    check("q whose powers are far too long", highest, great, INVALID);
    check("q as great as p", highest, Words.join(long64, new int[] {1, 3, 1, 1}, long64,
        new int[] {1, 1, 1, 1}, TWO), INVALID);
  }

  private static void checkTakes() {
    // 7 has one limb: 12 more cells, behind the runs slid together.
    NumberArena x = Checks.arena(16, 40, 2, 1, 2);
    Checks.set(x, 0, 7);
    x.release(1);
    Checks.words(x, SEVEN);
    Checks.due("4 + 12 of 16", x.check(0), VALID);
    Checks.due("slid", x.about(2), 1);
    Checks.due("place", x.look(2, 2), 2);
    Checks.due("cells", x.about(0), 4);
    Checks.words(x, SEVEN);
    Checks.due("slid though none moved", x.check(0), VALID);
    Checks.due("slides", x.about(2), 2);
    x.alloc(1);
    Checks.words(x, SEVEN);
    Checks.due("5 + 12 of 16", x.check(0), NO_ROOM);
    Checks.due("no words then", x.about(4), 0);
    Checks.due("slides", x.about(2), 3);
    Checks.words(x, TWO);
    Checks.due("NO_ROOM ahead of INVALID", x.check(0), NO_ROOM);
    x.word(1);
    Checks.due("behind MALFORMED", x.check(0), MALFORMED);
    Checks.due("which slides nothing", x.about(2), 4);
    Checks.words(x, TWO);
    Checks.due("6 more for 0", x.check(2), INVALID);
    Checks.due("slides", x.about(2), 5);
  }

  private static void proveSmall() {
    NumberArena x = Checks.arena(100, 400, 2);
    Checks.set(x, 0, 7);
    Checks.words(x, 1, 2, 3);
    Checks.due("prove 7", x.prove(0), 17);
    for (int i = 0; i <= SEVEN.length; i++) {
      Checks.due("told(" + i + ")", x.told(i), i < SEVEN.length ? SEVEN[i] : NONE);
    }
    Checks.set(x, 0, 2);
    Checks.due("prove 2", x.prove(0), 2);
    Checks.due("told(0)", x.told(0), 1);
    Checks.due("told(1)", x.told(1), 2);
    Checks.due("told(2)", x.told(2), NONE);
    Checks.set(x, 0, 3);
    Checks.due("prove 3", x.prove(0), 8);
    for (int i = 0; i < THREE.length; i++) {
      Checks.due("told(" + i + ")", x.told(i), THREE[i]);
    }
    Checks.due("it changes no number", x.limb(0, 0), 3);
    Checks.due("slides nothing", x.about(2), 0);
  }

  private static void proveAnswers() {
    NumberArena x = Checks.arena(100, 400, 4);
    Checks.words(x, 5, 6);
    long[] others = {0, 1, 4, 9, 561, 1073676289L, 1073741823L, 32768};
    for (long n : others) {
      Checks.set(x, 0, n);
      Checks.due("prove " + n, x.prove(0), 0);
    }
    Checks.set(x, 0, Checks.power(2, 30));
    Checks.due("3 limbs, no prime", x.prove(0), BAD_ARG);
    Checks.set(x, 0, Checks.power(2, 31).subtract(BigInteger.ONE));
    Checks.due("3 limbs, a prime", x.prove(0), BAD_ARG);
    Checks.due("prove(1)", x.prove(1), BAD_HANDLE);
    Checks.due("prove(-1)", x.prove(-1), BAD_HANDLE);
    Checks.due("no words changed", x.about(4), 2);
    Checks.due("no words changed", x.told(1), 6);
    Checks.set(x, 0, 1073741789);
    int count = x.prove(0);
    Checks.due("the highest prime of two limbs", count > 0, true);
    Checks.due("its certificate", x.check(0), VALID);
  }

  private static void proveFull() {
    NumberArena x = Checks.arena(100, 400, 2);
    Checks.words(x, 5);
    Checks.set(x, 0, 14920303);
    Checks.due("13 open nodes", x.prove(0), FULL);
    Checks.due("no words changed", x.told(0), 5);
    Checks.due("no words changed", x.about(4), 1);
    for (int words : new int[] {16, 17}) {
      NumberArena y = Checks.arena(100, words, 2);
      Checks.words(y, 5);
      Checks.set(y, 0, 7);
      Checks.due("17 words of " + words, y.prove(0), words < 17 ? FULL : 17);
      Checks.due("words", y.about(4), words < 17 ? 1 : 17);
    }
  }

  private static void proveAllBelow() {
    NumberArena x = Checks.arena(100, 400, 2);
    for (int n = 0; n < 600; n++) {
      if (n % 100 == 0) {
        x = Checks.arena(100, 400, 2);
      }
      x.setLimb(0, 0, n);
      int count = x.prove(0);
      boolean prime = Checks.big(n).isProbablePrime(60);
      Checks.due("prove " + n, count > 0, prime);
      if (prime) {
        Checks.due("check " + n, x.check(0), VALID);
      }
    }
  }
}
