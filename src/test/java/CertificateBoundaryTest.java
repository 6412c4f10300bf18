import java.math.BigInteger;
import java.util.Arrays;
import java.util.function.Supplier;

/** The boundary cases of certificates that the terms and promises 26 to 30 name, a test for each. */
public final class CertificateBoundaryTest {
  private static final int NONE = -1;
  private static final int BAD_HANDLE = -2;
  private static final int BAD_ARG = -3;
  private static final int NO_ROOM = -4;
  private static final int FULL = -9;
  private static final int VALID = 0;
  private static final int INVALID = 1;
  private static final int MALFORMED = 2;
  private static final int MIN = Integer.MIN_VALUE;
  private static final int MAX = Integer.MAX_VALUE;
  private static final int[] TWO = Words.TWO;
  private static final int[] THREE = Words.THREE;
  private static final int[] SEVEN = Words.SEVEN;
  private static final BigInteger B1 = BigInteger.ONE;
  private static final BigInteger HIGHEST = Checks.power(2, 960).subtract(B1);

  public static void main(String[] args) {
    numbersOfANode();
    numbersOfAWitness();
    kindsAndExponents();
    justOneNode();
    nodesOpen();
    ifPIs2ThatIsAll();
    witnessBelowP();
    primesBelowPAndRising();
    theirNodesAreGood();
    theyTogetherArePMinus1();
    powersOfTheWitness();
    theLongest();
    twentyKinds();
    word();
    told();
    clear();
    checkForgetsTheWords();
    checkOfAnotherNumber();
    checkNeedsCells();
    checkSlidesFirst();
    proveNoPrime();
    proveTooLong();
    proveFull();
    proveTooDeep();
    proveInPlaceOfAllWords();
    proveLeastWitness();
    Checks.finish();
  }

  private static void check(String what, BigInteger p, int due, int... words) {
    NumberArena x = Checks.arena(800, 400, 64);
    Checks.set(x, 0, p);
    Checks.words(x, words);
    Checks.due("check of " + what, x.check(0), due);
  }

  private static void check(String what, long p, int due, int... words) {
    check(what, Checks.big(p), due, words);
  }

  private static int[] sevenWith(int at, int w) {
    return Words.with(SEVEN, at, w);
  }

  private static void numbersOfANode() {
    Checks.says("Terms: node: N 1 .. 64 and so many limbs, the highest not 0");
    check("7", 7, VALID, SEVEN);
    check("N 0", 7, MALFORMED, sevenWith(0, 0));
    check("N 0 and no limbs", 7, MALFORMED, Words.join(new int[] {0}, Arrays.copyOfRange(SEVEN, 2, 17)));
    check("a highest limb of 0", 7, MALFORMED, sevenWith(1, 0));
    check("a highest limb of 0 above 7", 7, MALFORMED,
        Words.join(new int[] {2, 7, 0}, Arrays.copyOfRange(SEVEN, 2, 17)));
    check("an inner N 0", 7, MALFORMED, sevenWith(6, 0));
    check("an inner highest limb of 0", 7, MALFORMED, sevenWith(10, 0));
    check("N 32767", 7, MALFORMED, sevenWith(0, 32767));
    int[] behind = Words.join(new int[] {1, 3, 1, 1}, TWO);
    int[] limbs64 = Words.limbs(HIGHEST);
    check("N 64", HIGHEST, INVALID, Words.join(limbs64, behind));
    check("N 65", HIGHEST, MALFORMED, Words.join(Words.with(limbs64, 0, 65), new int[] {1}, behind));
    check("N 64 and lower limbs of 0", Checks.power(2, 959), INVALID,
        Words.join(Words.limbs(Checks.power(2, 959)), behind));
    check("N 64 and 63 limbs", HIGHEST, MALFORMED, Words.without(limbs64, 1));
  }

  private static void numbersOfAWitness() {
    Checks.says("Terms: else M likewise: its witness w");
    check("M 0", 7, MALFORMED, sevenWith(2, 0));
    check("M 0 and no limbs", 7, MALFORMED,
        Words.join(new int[] {1, 7, 0}, Arrays.copyOfRange(SEVEN, 4, 17)));
    check("a witness of 0", 7, MALFORMED, sevenWith(3, 0));
    check("a highest limb of 0 above 3", 7, MALFORMED,
        Words.join(new int[] {1, 7, 2, 3, 0}, Arrays.copyOfRange(SEVEN, 4, 17)));
    int[] behind = Arrays.copyOfRange(SEVEN, 4, 17);
    int[] limbs64 = Words.limbs(HIGHEST);
    check("M 64", 7, INVALID, Words.join(new int[] {1, 7}, limbs64, behind));
    check("M 65", 7, MALFORMED,
        Words.join(new int[] {1, 7}, Words.with(limbs64, 0, 65), new int[] {1}, behind));
    check("no witness", 7, MALFORMED, 1, 7);
  }

  private static void kindsAndExponents() {
    Checks.says("Terms: K 1 .. 20");
    check("K 0", 7, MALFORMED, sevenWith(4, 0));
    check("K 0 and no q", 7, MALFORMED, 1, 7, 1, 3, 0);
    check("K 1 and one q", 7, INVALID, 1, 7, 1, 3, 1, 1, 1, 2);
    check("K 1 and two q", 7, MALFORMED, sevenWith(4, 1));
    check("K 3 and two q", 7, MALFORMED, sevenWith(4, 3));
    for (int kinds = 19; kinds <= 22; kinds++) {
      int[] words = {1, 7, 1, 3, kinds};
      for (int k = 0; k < kinds; k++) {
        words = Words.join(words, Words.part(1, TWO));
      }
      check("K " + kinds, 7, kinds <= 20 ? INVALID : MALFORMED, words);
    }
    Checks.says("Terms: a word E 1 .. 960");
    for (int at : new int[] {5, 8, 14}) {
      check("E 0 at " + at, 7, MALFORMED, sevenWith(at, 0));
      check("E 2 at " + at, 7, INVALID, sevenWith(at, 2));
      check("E 960 at " + at, 7, INVALID, sevenWith(at, 960));
      check("E 961 at " + at, 7, MALFORMED, sevenWith(at, 961));
      check("E 32767 at " + at, 7, MALFORMED, sevenWith(at, 32767));
    }
  }

  private static void justOneNode() {
    Checks.says("Terms: a row that is not just one node is MALFORMED");
    check("no words", 7, MALFORMED);
    for (int n = 1; n < SEVEN.length; n++) {
      check("the first " + n + " words", 7, MALFORMED, Arrays.copyOf(SEVEN, n));
    }
    check("one word more", 7, MALFORMED, Words.join(SEVEN, new int[] {0}));
    check("two nodes", 7, MALFORMED, Words.join(SEVEN, TWO));
    check("a word ahead", 7, MALFORMED, Words.join(new int[] {1}, SEVEN));
    Checks.says("Terms: a row of words (at most W)");
    NumberArena x = Checks.arena(100, 17, 1);
    x.setLimb(0, 0, 7);
    Checks.words(x, SEVEN);
    Checks.due("W words that are a node", x.check(0), VALID);
    Checks.words(x, Words.with(SEVEN, 4, 3));
    Checks.due("W words and a node that is cut", x.check(0), MALFORMED);
    for (int n = 8; n < SEVEN.length; n++) {
      NumberArena y = Checks.arena(100, n, 1);
      Checks.words(y, Arrays.copyOf(SEVEN, n));
      Checks.due("W words, the first " + n + " of more", y.check(0), MALFORMED);
    }
    NumberArena z = Checks.arena(100, 8, 1);
    Checks.words(z, 2, 3, 1, 2, 2, 1, 1, 1);
    Checks.due("W words and no node behind E", z.check(0), MALFORMED);
  }

  private static int[] threesInOneAnother(int nodes) {
    int[] words = TWO;
    for (int k = 1; k < nodes; k++) {
      words = Words.node(Checks.big(3), Checks.big(2), 1, Words.part(1, words));
    }
    return words;
  }

  private static void nodesOpen() {
    Checks.says("Terms: more than 12 nodes open in one another (the first one counts): MALFORMED");
    check("2 of them", 3, VALID, threesInOneAnother(2));
    check("12 of them", 3, INVALID, threesInOneAnother(12));
    check("13 of them", 3, MALFORMED, threesInOneAnother(13));
    check("60 of them", 3, MALFORMED, threesInOneAnother(60));
    int[] aside = Words.node(Checks.big(7), Checks.big(3), 2,
        Words.part(1, threesInOneAnother(11)), Words.part(1, threesInOneAnother(11)));
    check("12 of them twice, beside one another", 7, INVALID, aside);
    check("12, and then 13", 7, MALFORMED, Words.node(Checks.big(7), Checks.big(3), 2,
        Words.part(1, threesInOneAnother(11)), Words.part(1, threesInOneAnother(12))));
    check("12 that are GOOD", 1266767, VALID, Words.certificate(1266767));
    check("13 that would be GOOD", 14920303, MALFORMED, Words.certificate(14920303));
  }

  private static void ifPIs2ThatIsAll() {
    Checks.says("Terms: if p is 2 that is all");
    check("2", 2, VALID, TWO);
    check("2 with a witness", 2, MALFORMED, Words.join(TWO, new int[] {1, 1, 1, 1}, TWO));
    check("3 without", 3, MALFORMED, 1, 3);
    check("1 without", 1, MALFORMED, 1, 1);
    check("2^15 + 2 without", 32770, MALFORMED, 2, 2, 1);
    check("2^15 + 2 with a witness", 32770, INVALID, Words.join(new int[] {2, 2, 1, 1, 3, 1, 1}, TWO));
    check("1 with a witness", 1, INVALID, Words.join(new int[] {1, 1, 1, 1, 1, 1}, TWO));
  }

  private static void witnessBelowP() {
    Checks.says("Terms: GOOD: w is below p");
    check("w is p - 1", 3, VALID, THREE);
    check("w is p", 3, INVALID, Words.with(THREE, 3, 3));
    check("w is p + 2, which is 2 modulo p", 3, INVALID, Words.with(THREE, 3, 5));
    check("w is 3 + 7", 7, INVALID, sevenWith(3, 10));
    check("an inner w above its p", 7, INVALID, sevenWith(12, 5));
    check("w is 3 + 7 * 2^15", 7, INVALID,
        Words.join(new int[] {1, 7, 2, 3, 7}, Arrays.copyOfRange(SEVEN, 4, 17)));
  }

  private static void primesBelowPAndRising() {
    Checks.says("Terms: GOOD: each q is below p");
    check("3 by 3", 3, INVALID, Words.join(new int[] {1, 3, 1, 2, 1, 1}, THREE));
    check("3 by 7", 3, INVALID, Words.join(new int[] {1, 3, 1, 2, 1, 1}, SEVEN));
    Checks.says("Terms: GOOD: each q is above the one ahead of it");
    check("7 by 3 and 2", 7, INVALID, Words.join(new int[] {1, 7, 1, 3, 2, 1}, THREE, new int[] {1}, TWO));
    check("5 by 2 and 2", 5, INVALID, Words.join(new int[] {1, 5, 1, 2, 2, 1}, TWO, new int[] {1}, TWO));
    check("5 by 2 to the 2", 5, VALID, Words.FIVE);
    int[] third = Words.node(Checks.big(31), Checks.big(3), 3,
        Words.part(1, TWO), Words.part(1, Words.FIVE), Words.part(1, THREE));
    check("31 by 2, 5, 3", 31, INVALID, third);
    check("31 by 2, 3, 5", 31, VALID, Words.certificate(31));
  }

  private static void theirNodesAreGood() {
    Checks.says("Terms: GOOD: each q: its node is GOOD");
    int[] four = Words.join(new int[] {1, 4, 1, 3, 1, 1}, THREE);
    check("13 by 3 and 4, all else being right", 13, INVALID,
        Words.join(new int[] {1, 13, 1, 2, 2, 1}, THREE, new int[] {1}, four));
    check("13 by 2 to the 2 and 3", 13, VALID, Words.certificate(13));
    check("7, the 3 in it by 1", 7, INVALID, sevenWith(12, 1));
    int[] deep = Words.certificate(1266767);
    int last = deep.length - 4;
    Checks.due("the last node but one has the witness 2", deep[last - 1], 2);
    check("the twelfth node's parent by 1", 1266767, INVALID, Words.with(deep, last - 1, 1));
  }

  private static void theyTogetherArePMinus1() {
    Checks.says("Terms: GOOD: the q to their E together are p - 1");
    check("7 by 2 alone", 7, INVALID, Words.join(new int[] {1, 7, 1, 3, 1, 1}, TWO));
    check("7 by 3 alone", 7, INVALID, Words.join(new int[] {1, 7, 1, 3, 1, 1}, THREE));
    check("7 by 2 to the 2 and 3", 7, INVALID, sevenWith(5, 2));
    check("7 by 2 and 3 to the 2", 7, INVALID, sevenWith(8, 2));
    check("17 by 2 to the 4", 17, VALID, Words.certificate(17));
    check("17 by 2 to the 3", 17, INVALID, Words.join(new int[] {1, 17, 1, 3, 1, 3}, TWO));
    check("17 by 2 to the 5", 17, INVALID, Words.join(new int[] {1, 17, 1, 3, 1, 5}, TWO));
    check("65537 by 2 to the 16", 65537, VALID, 2, 1, 2, 1, 3, 1, 16, 1, 2);
    check("65537 by 2 to the 1", 65537, INVALID, 2, 1, 2, 1, 3, 1, 1, 1, 2);
    check("65537 by 2 to the 960", 65537, INVALID, 2, 1, 2, 1, 3, 1, 960, 1, 2);
    Checks.due("2^31 + 1 is 3 times a prime", Checks.power(2, 31).add(B1).mod(Checks.big(3)).signum(), 0);
    check("2^31 + 1 by 2 to the 31", Checks.power(2, 31).add(B1), INVALID, 3, 1, 0, 2, 1, 3, 1, 31, 1, 2);
  }

  private static void powersOfTheWitness() {
    Checks.says("Terms: GOOD: w to the p - 1 is 1 modulo p");
    check("9 by 2, whose 4th power is not 1, nor is the 8th", 9, INVALID,
        Words.join(new int[] {1, 9, 1, 2, 1, 3}, TWO));
    Checks.says("Terms: GOOD: w to the (p - 1) / q is not, for any q");
    check("9 by 8, whose 4th power is 1, as is the 8th", 9, INVALID,
        Words.join(new int[] {1, 9, 1, 8, 1, 3}, TWO));
    check("7 by 2, whose third power is 1", 7, INVALID, sevenWith(3, 2));
    check("7 by 6, whose square is 1", 7, INVALID, sevenWith(3, 6));
    check("7 by 1", 7, INVALID, sevenWith(3, 1));
    check("7 by 5", 7, VALID, sevenWith(3, 5));
    for (int w = 1; w < 31; w++) {
      BigInteger big = Checks.big(w);
      boolean good = true;
      for (int q : new int[] {2, 3, 5}) {
        good = good && !big.modPow(Checks.big(30 / q), Checks.big(31)).equals(B1);
      }
      check("31 by " + w, 31, good ? VALID : INVALID, Words.with(Words.certificate(31), 3, w));
    }
  }

  private static BigInteger root(BigInteger p, boolean fromAbove, int... factors) {
    for (int k = 1; k < 1000; k++) {
      BigInteger w = fromAbove ? p.subtract(Checks.big(k)) : Checks.big(k);
      boolean good = true;
      for (int q : factors) {
        good = good && !w.modPow(p.subtract(B1).divide(Checks.big(q)), p).equals(B1);
      }
      if (good) {
        return w;
      }
    }
    return B1;
  }

  // 9 * 125 * 2^949 + 1 is a prime of 960 bits.
  private static void theLongest() {
    Checks.says("Terms: N and M of 64 limbs in a node that is GOOD");
    BigInteger p = Checks.power(2, 949).multiply(Checks.big(9 * 125)).add(B1);
    Checks.due("bits", p.bitLength(), 960);
    int[][] parts = {Words.part(949, TWO), Words.part(2, THREE), Words.part(3, Words.FIVE)};
    int[] least = Words.node(p, root(p, false, 2, 3, 5), 3, parts);
    check("a prime of 64 limbs", p, VALID, least);
    check("the same by a witness of 64 limbs", p, VALID, Words.node(p, root(p, true, 2, 3, 5), 3, parts));
    check("the same by 1", p, INVALID, Words.node(p, B1, 3, parts));
    check("the same by p", p, INVALID, Words.node(p, p, 3, parts));
    check("the same for one below", p.subtract(B1), INVALID, least);
  }

  // Primes that have short certificates, so that twenty of them go into 400 words.
  private static void twentyKinds() {
    Checks.says("Terms: K 20 in a node that is GOOD");
    int[] primes = {2, 3, 5, 7, 13, 17, 19, 37, 73, 97, 109, 163, 193, 257, 433, 487, 577, 769, 1153, 65537};
    BigInteger p = Checks.big(5);
    int[] parts = new int[0];
    for (int q : primes) {
      p = p.multiply(Checks.big(q));
      parts = Words.join(parts, Words.part(q == 5 ? 2 : 1, Words.certificate(q)));
    }
    p = p.add(B1);
    int[] words = Words.node(p, root(p, false, primes), 20, parts);
    Checks.due("words", words.length <= 400, true);
    check("twenty q", p, VALID, words);
    int[] last = Words.certificate(65537);
    int[] wrong = Words.with(words, words.length - last.length + 4, 2);
    check("twenty q, the last one's witness being wrong", p, INVALID, wrong);
  }

  private static void word() {
    Checks.says("Promise 26: BAD_ARG: it is not 0 .. 32767");
    for (int w : new int[] {MIN, -1, 32768, MAX}) {
      Checks.changesNothing(new NumberArena(1, 16, 8), "word(" + w + ")", BAD_ARG, a -> a.word(w));
    }
    NumberArena x = new NumberArena(1, 16, 8);
    Checks.due("word(0)", x.word(0), 1);
    Checks.due("word(32767)", x.word(32767), 2);
    Checks.says("Promise 26: FULL: there are W");
    for (int k = 3; k <= 8; k++) {
      Checks.due("word", x.word(k), k);
    }
    Checks.changesNothing(x, "word(1)", FULL, a -> a.word(1));
    Checks.changesNothing(x, "BAD_ARG ahead of FULL", BAD_ARG, a -> a.word(32768));
    x.clear();
    Checks.due("word(1) of none", x.word(1), 1);
  }

  private static void told() {
    Checks.says("Promise 27: the i-th word; NONE if there is none");
    NumberArena x = new NumberArena(1, 16, 8);
    Checks.due("told(0) of none", x.told(0), NONE);
    Checks.words(x, 7, 0, 32767);
    int[] due = {7, 0, 32767};
    for (int i = 0; i < 3; i++) {
      Checks.due("told(" + i + ")", x.told(i), due[i]);
    }
    for (int i : new int[] {MIN, -1, 3, 7, 8, 400, MAX}) {
      Checks.due("told(" + i + ") of 3", x.told(i), NONE);
    }
    for (int k = 4; k <= 8; k++) {
      x.word(k);
    }
    Checks.due("told(7) of W", x.told(7), 8);
    Checks.due("told(8) of W", x.told(8), NONE);
  }

  private static void clear() {
    Checks.says("Promise 28: there are no words: how many there were");
    NumberArena x = new NumberArena(1, 16, 8);
    Checks.changesNothing(x, "clear() of none", 0, a -> a.clear());
    for (int k = 1; k <= 8; k++) {
      x.word(k);
    }
    Checks.due("clear() of W", x.clear(), 8);
    Checks.due("about(4)", x.about(4), 0);
    Checks.due("told(0)", x.told(0), NONE);
    Checks.due("clear() of none", x.clear(), 0);
  }

  private static void checkForgetsTheWords() {
    Checks.says("Promise 29: the words, none then but for BAD_HANDLE");
    Supplier<NumberArena> seven = () -> {
      NumberArena made = Checks.arena(19, 20, 1, 5);
      made.setLimb(0, 0, 7);
      Checks.words(made, SEVEN);
      return made;
    };
    for (int h : new int[] {MIN, -1, 2, 24, MAX}) {
      Checks.changesNothing(seven, "check(" + h + ")", BAD_HANDLE, a -> a.check(h));
    }
    NumberArena x = seven.get();
    Checks.due("VALID", x.check(0), VALID);
    Checks.due("none then", x.about(4), 0);
    Checks.due("of none", x.check(0), MALFORMED);
    Checks.words(x, TWO);
    Checks.due("INVALID", x.check(0), INVALID);
    Checks.due("none then", x.about(4), 0);
    Checks.words(x, 1, 2, 3);
    Checks.due("MALFORMED", x.check(0), MALFORMED);
    Checks.due("none then", x.about(4), 0);
    x.alloc(2);
    Checks.words(x, SEVEN);
    Checks.due("NO_ROOM", x.check(0), NO_ROOM);
    Checks.due("none then", x.about(4), 0);
  }

  private static void checkOfAnotherNumber() {
    Checks.says("Promise 29: VALID: its p being h's NUMBER");
    check("2 for 0", 0, INVALID, TWO);
    check("2 for 3", 3, INVALID, TWO);
    check("7 for 6", 6, INVALID, SEVEN);
    check("7 for 7 + 2^15", 7 + 32768, INVALID, SEVEN);
    check("7 for 7 * 2^15", 7 * 32768, INVALID, SEVEN);
    check("65537 for 1", 1, INVALID, 2, 1, 2, 1, 3, 1, 16, 1, 2);
    Checks.says("Promise 29: a row alone, whatever rows there were ahead of it");
    NumberArena x = Checks.arena(100, 60, 2);
    for (int p : new int[] {31, 2, 7, 3, 43, 5, 11, 65537, 2}) {
      Checks.set(x, 0, p);
      Checks.words(x, Words.certificate(p));
      Checks.due("check of " + p, x.check(0), VALID);
      Checks.words(x, 1, 3, 1, 1, 1, 1, 1, 2);
      Checks.due("check of 3 by 1", x.check(0), INVALID);
    }
  }

  private static void checkNeedsCells() {
    Checks.says("Promise 29: NO_ROOM: six times the LENGTH of h, and 6, more cells are not there");
    BigInteger[] numbers = {BigInteger.ZERO, Checks.big(2), Checks.big(65537), Checks.power(2, 45), HIGHEST};
    for (BigInteger number : numbers) {
      int cells = 6 * Checks.lengthOf(number) + 6;
      NumberArena x = Checks.withFree(cells, number);
      Checks.words(x, TWO);
      Checks.due("with " + cells + " cells", x.check(0), number.equals(Checks.big(2)) ? VALID : INVALID);
      Checks.due("slides", x.about(2), 1);
      Checks.due("they are free again", x.about(6) - x.about(1), cells);
      NumberArena y = Checks.withFree(cells - 1, number);
      Checks.words(y, TWO);
      Checks.due("with one cell less than " + cells, y.check(0), NO_ROOM);
      Checks.due("slides", y.about(2), 1);
      Checks.due("its number", Checks.get(y, 0), number);
    }
    Checks.says("Promise 29: NO_ROOM, behind 2, ahead of the others");
    NumberArena z = Checks.withFree(11, Checks.big(7), Checks.big(7));
    Checks.words(z, SEVEN);
    Checks.due("ahead of VALID", z.check(1), NO_ROOM);
    Checks.words(z, TWO);
    Checks.due("ahead of INVALID", z.check(1), NO_ROOM);
    Checks.due("slides", z.about(2), 2);
    Checks.words(z, 1);
    Checks.due("behind MALFORMED", z.check(1), MALFORMED);
    Checks.due("slides", z.about(2), 2);
  }

  private static void checkSlidesFirst() {
    Checks.says("Promise 29: all RUNS are SLID first");
    NumberArena x = Checks.withGap(8, 4, Checks.big(7), Checks.big(5));
    Checks.words(x, SEVEN);
    Checks.due("12 cells, 8 of them in a gap", x.check(1), VALID);
    Checks.due("slides", x.about(2), 1);
    Checks.due("place", x.look(1, 2), 0);
    Checks.due("place", x.look(2, 2), 1);
    NumberArena y = Checks.withGap(8, 3, Checks.big(7), Checks.big(5));
    Checks.words(y, SEVEN);
    int end = y.about(1);
    Checks.due("11 cells, 8 of them in a gap", y.check(1), NO_ROOM);
    Checks.due("slides", y.about(2), 1);
    Checks.due("they stay slid", y.look(1, 2), 0);
    Checks.due("end", y.about(1), end - 8);
    NumberArena z = Checks.withGap(2, 80, Checks.big(7));
    Checks.words(z, SEVEN);
    Checks.due("slid though there is room", z.check(1), VALID);
    Checks.due("slides", z.about(2), 1);
    Checks.due("place", z.look(1, 2), 0);
    NumberArena w = Checks.withGap(2, 80, Checks.big(7));
    Checks.words(w, 1, 7);
    Checks.due("MALFORMED", w.check(1), MALFORMED);
    Checks.due("slides nothing", w.about(2), 0);
    Checks.due("place", w.look(1, 2), 2);
  }

  private static void proveNoPrime() {
    Checks.says("Promise 30: 0: h's NUMBER is no prime (no words change)");
    long[] numbers = {0, 1, 4, 6, 9, 25, 32761, 32768, 1073676289L, 1073741823L};
    for (long number : numbers) {
      NumberArena x = Checks.arena(16, 8, 2);
      Checks.set(x, 0, number);
      Checks.words(x, 5, 6);
      Checks.changesNothing(x, "prove " + number, 0, a -> a.prove(0));
    }
    for (int number : new int[] {2, 3, 5, 32749, 32771}) {
      proves(number, Checks.arena(20, 400, 2));
    }
    NumberArena y = Checks.withFree(0, Checks.big(7), Checks.big(32767));
    Checks.due("7 in a full run, another one behind it", y.prove(0), SEVEN.length);
  }

  private static void proveTooLong() {
    Checks.says("Promise 30: BAD_ARG: its LENGTH is above 2");
    BigInteger[] numbers = {Checks.power(2, 30), Checks.power(2, 30).add(Checks.big(3)),
        Checks.power(2, 31).subtract(B1), HIGHEST};
    for (BigInteger number : numbers) {
      NumberArena x = Checks.withFree(0, number);
      Checks.words(x, 5, 6);
      Checks.changesNothing(x, "prove " + number, BAD_ARG, a -> a.prove(0));
    }
    NumberArena x = Checks.arena(100, 400, 3);
    Checks.set(x, 0, 1073741789);
    int count = x.prove(0);
    Checks.due("the highest prime of two limbs, in a room of 3", count > 0, true);
    Checks.due("its certificate", x.check(0), VALID);
    Checks.says("Promise 30: BAD_HANDLE");
    for (int h : new int[] {MIN, -1, 1, 24, MAX}) {
      NumberArena y = Checks.arena(16, 8, 1);
      Checks.words(y, 5, 6);
      Checks.changesNothing(y, "prove(" + h + ")", BAD_HANDLE, a -> a.prove(h));
    }
  }

  private static void proveFull() {
    Checks.says("Promise 30: FULL: more than W words (none change)");
    for (int p : new int[] {7, 11, 23, 31, 43, 65537, 1073741789}) {
      int[] due = Words.certificate(p);
      for (int words = 8; words < due.length; words++) {
        NumberArena x = Checks.arena(20, words, 2);
        Checks.set(x, 0, p);
        Checks.words(x, 5, 6);
        Checks.changesNothing(x, "prove " + p + " with " + words + " words", FULL, a -> a.prove(0));
      }
      proves(p, Checks.arena(20, due.length, 2));
    }
  }

  private static void proves(int p, NumberArena x) {
    int[] due = Words.certificate(p);
    Checks.set(x, 0, p);
    Checks.due("prove " + p, x.prove(0), due.length);
    for (int i = 0; i < due.length; i++) {
      Checks.due("told(" + i + ") of " + p, x.told(i), due[i]);
    }
    Checks.due("behind the last word of " + p, x.told(due.length), NONE);
  }

  private static void proveTooDeep() {
    Checks.says("Promise 30: FULL: more than 12 nodes in one another");
    NumberArena x = Checks.arena(20, 400, 2);
    Checks.set(x, 0, 14920303);
    Checks.words(x, 5, 6);
    Checks.changesNothing(x, "13 nodes", FULL, a -> a.prove(0));
    proves(1266767, x);
  }

  private static void proveInPlaceOfAllWords() {
    Checks.says("Promise 30: a certificate of h comes in place of all words: how many");
    NumberArena x = Checks.arena(16, 17, 2, 14);
    for (int k = 0; k < 17; k++) {
      x.word(100 + k);
    }
    x.setLimb(0, 0, 2);
    Checks.due("2 words where W were, no cell being free", x.prove(0), 2);
    Checks.due("about(4)", x.about(4), 2);
    Checks.due("told(2)", x.told(2), NONE);
    x.setLimb(0, 0, 7);
    Checks.due("W words where 2 were", x.prove(0), 17);
    for (int i = 0; i <= 17; i++) {
      Checks.due("told(" + i + ")", x.told(i), i < 17 ? SEVEN[i] : NONE);
    }
    Checks.due("the same once more", x.prove(0), 17);
    Checks.due("slides", x.about(2), 0);
    Checks.due("its number", x.limb(0, 0), 7);
  }

  // The least witness is greater for each of these primes than for all that are below it.
  private static void proveLeastWitness() {
    Checks.says("Promise 30: w is the least that makes it GOOD");
    int[] primes = {3, 7, 23, 41, 71, 191, 409, 2161, 5881, 36721, 55441, 71761, 110881, 760321, 5109721};
    int[] roots = {2, 3, 5, 6, 7, 19, 21, 23, 31, 37, 38, 44, 69, 73, 94};
    for (int k = 0; k < primes.length; k++) {
      NumberArena x = Checks.arena(20, 400, 2);
      Checks.set(x, 0, primes[k]);
      Checks.due("prove " + primes[k], x.prove(0) > 0, true);
      Checks.due("witness of " + primes[k], x.told(primes[k] > 32767 ? 4 : 3), roots[k]);
    }
    Checks.says("Promise 30: its K are all primes that go into p - 1, rising, with their E");
    // 892371480 has nine primes, as many as go into a number of two limbs; 469762048 is 7 * 2^26.
    for (int p : new int[] {3, 17, 31, 211, 257, 2311, 65537, 786433, 892371481, 469762049}) {
      proves(p, Checks.arena(20, 400, 2));
    }
  }
}
