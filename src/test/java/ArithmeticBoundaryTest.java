import java.math.BigInteger;
import java.util.function.ToIntFunction;

/** The boundary cases that promises 10 to 19 name, a test for each. */
public final class ArithmeticBoundaryTest {
  private static final int NONE = -1;
  private static final int BAD_HANDLE = -2;
  private static final int BAD_ARG = -3;
  private static final int NO_ROOM = -4;
  private static final int NEGATIVE = -5;
  private static final int ZERO = -6;
  private static final int ALIAS = -7;
  private static final int TOO_LONG = -8;
  private static final BigInteger B0 = BigInteger.ZERO;
  private static final BigInteger B1 = BigInteger.ONE;
  private static final BigInteger B2 = BigInteger.TWO;
  private static final BigInteger HIGHEST = Checks.power(2, 960).subtract(B1);

  public static void main(String[] args) {
    add();
    sub();
    mul();
    divmod();
    powmod();
    gcd();
    root();
    shift();
    compare();
    jacobi();
    Checks.finish();
  }

  /** The highest number of so many limbs. */
  private static BigInteger limbs(int n) {
    return Checks.power(2, 15 * n).subtract(B1);
  }

  private static void holds(NumberArena x, int h, BigInteger value) {
    Checks.due("the number of " + h, Checks.get(x, h), value);
  }

  /**
   * The call takes just so many cells: with them it answers as due and slides nothing; with fewer,
   * however few, it is refused, slides once, and changes nothing.
   */
  private static void takes(int cells, String call, int due, ToIntFunction<NumberArena> act, BigInteger... values) {
    NumberArena enough = Checks.withFree(cells, values);
    Checks.due(call + " with " + cells + " free cells", act.applyAsInt(enough), due);
    Checks.due(call + " with " + cells + " free cells, slides", enough.about(2), 0);
    for (int free = 0; free < cells; free++) {
      Checks.changesNothing(Checks.withFree(free, values), call + " with " + free, NO_ROOM, 1, act);
    }
  }

  /** Refused for want of cells, the runs being slid so often: once for each TAKE that wants it. */
  private static void slides(int times, String call, NumberArena x, ToIntFunction<NumberArena> act) {
    Checks.due(call, act.applyAsInt(x), NO_ROOM);
    Checks.due(call + ", slides", x.about(2), times);
  }

  private static void badHandles(String call, int h, int... answers) {
    for (int k = 0; k < answers.length; k++) {
      Checks.due(call + ", handle " + k + " being " + h, answers[k], BAD_HANDLE);
    }
  }

  private static void add() {
    Checks.says("Promise 10: a + b COMES to d: TOO_LONG");
    NumberArena x = Checks.withFree(64, HIGHEST, B1, B0);
    Checks.changesNothing(x, "2^960 - 1 + 1", TOO_LONG, a -> a.add(2, 0, 1));
    Checks.due("2^960 - 1 + 0", x.add(2, 0, 2), 64);
    holds(x, 2, HIGHEST);
    Checks.says("Promise 10: TOO_LONG ahead of NO_ROOM");
    NumberArena y = Checks.withFree(63, HIGHEST, B1, B0);
    Checks.changesNothing(y, "2^960 - 1 twice", TOO_LONG, a -> a.add(2, 0, 0));
    Checks.due("as long a number, TOO_LONG being no matter", y.add(2, 0, 2), NO_ROOM);
    Checks.says("Promise 10: NO_ROOM");
    takes(4, "a carry into limb 3", 4, a -> a.add(2, 0, 1), limbs(3), B1, B0);
    takes(3, "no carry", 3, a -> a.add(1, 0, 1), limbs(3), B0);
    takes(2, "onto a", 2, a -> a.add(0, 0, 0), limbs(1));
    takes(0, "0 + 0", 0, a -> a.add(0, 0, 0), B0);
    takes(0, "where it fits", 1, a -> a.add(0, 0, 1), B1, B1);
    Checks.says("Promise 10: its LENGTH");
    NumberArena z = Checks.arena(140, 8, 64, 1, 64);
    Checks.set(z, 0, limbs(63));
    Checks.set(z, 1, 1);
    Checks.due("a carry through all limbs", z.add(2, 0, 1), 64);
    holds(z, 2, Checks.power(2, 945));
    Checks.says("Promise 10: BAD_HANDLE");
    NumberArena w = Checks.arena(16, 8, 1);
    for (int h : new int[] {-1, 1, 24}) {
      badHandles("add", h, w.add(h, 0, 0), w.add(0, h, 0), w.add(0, 0, h));
    }
  }

  private static void sub() {
    Checks.says("Promise 11: NEGATIVE: a is below b");
    NumberArena x = Checks.withFree(64, HIGHEST, HIGHEST.subtract(B1), B0);
    Checks.changesNothing(x, "one below", NEGATIVE, a -> a.sub(2, 1, 0));
    Checks.due("one above", x.sub(2, 0, 1), 1);
    holds(x, 2, B1);
    Checks.due("as great", x.sub(2, 0, 0), 0);
    holds(x, 2, B0);
    NumberArena small = Checks.withFree(0, B0, B1);
    Checks.changesNothing(small, "0 - 1", NEGATIVE, a -> a.sub(0, 0, 1));
    Checks.due("0 - 0", small.sub(1, 0, 0), 0);
    Checks.says("Promise 11: NEGATIVE ahead of NO_ROOM");
    NumberArena y = Checks.withFree(1, limbs(2), limbs(3), B0);
    Checks.changesNothing(y, "2 limbs - 3", NEGATIVE, a -> a.sub(2, 0, 1));
    Checks.says("Promise 11: NO_ROOM");
    takes(3, "3 limbs - 2", 3, a -> a.sub(2, 0, 1), limbs(3), limbs(2), B0);
    takes(3, "3 limbs, 2^45 - 1", 3, a -> a.sub(2, 0, 1), Checks.power(2, 45), B1, B0);
    takes(0, "where it fits", 1, a -> a.sub(2, 0, 1), Checks.power(2, 15), B1, B0);
    Checks.says("Promise 11: its LENGTH");
    NumberArena z = Checks.arena(140, 8, 64, 1);
    Checks.set(z, 0, Checks.power(2, 945));
    Checks.set(z, 1, 1);
    Checks.due("a borrow through all limbs", z.sub(0, 0, 1), 63);
    holds(z, 0, limbs(63));
    Checks.says("Promise 11: BAD_HANDLE");
    NumberArena w = Checks.arena(16, 8, 1);
    for (int h : new int[] {-1, 1, 24}) {
      badHandles("sub", h, w.sub(h, 0, 0), w.sub(0, h, 0), w.sub(0, 0, h));
    }
  }

  private static void mul() {
    Checks.says("Promise 12: TOO_LONG: neither is 0, and la + lb is above 64");
    NumberArena x = Checks.arena(400, 8, 64, 64, 64);
    Checks.set(x, 0, limbs(32));
    Checks.set(x, 1, limbs(33));
    Checks.due("32 limbs by 32", x.mul(2, 0, 0), 64);
    holds(x, 2, limbs(32).pow(2));
    Checks.due("33 limbs by 32", x.mul(2, 1, 0), TOO_LONG);
    Checks.due("32 limbs by 33", x.mul(2, 0, 1), TOO_LONG);
    holds(x, 2, limbs(32).pow(2));
    NumberArena y = Checks.withFree(129, HIGHEST, B1, B0);
    Checks.changesNothing(y, "64 limbs by 1, though the product has 64", TOO_LONG, a -> a.mul(2, 0, 1));
    Checks.due("1 by 64 limbs", y.mul(2, 1, 0), TOO_LONG);
    Checks.due("64 limbs by 0", y.mul(1, 0, 2), 0);
    Checks.due("0 by 64 limbs", y.mul(1, 2, 0), 0);
    NumberArena z = Checks.arena(200, 8, 63, 1, 63);
    Checks.set(z, 0, Checks.power(2, 930));
    Checks.set(z, 1, 1);
    Checks.due("63 limbs by 1", z.mul(2, 0, 1), 63);
    Checks.says("Promise 12: TOO_LONG ahead of NO_ROOM");
    Checks.changesNothing(Checks.withFree(0, HIGHEST, B1, B0), "64 limbs by 1", TOO_LONG, a -> a.mul(2, 0, 1));
    mulTakes();
  }

  private static void mulTakes() {
    Checks.says("Promise 12: la + lb cells are TAKEN ahead; NO_ROOM");
    takes(5 + 5, "3 limbs by 2", 5, a -> a.mul(2, 0, 1), limbs(3), limbs(2), B0);
    takes(2, "1 limb by 1 where it fits", 1, a -> a.mul(2, 0, 1), B1, B1, B0);
    takes(3, "3 limbs by 0", 0, a -> a.mul(2, 0, 1), limbs(3), B0, B1);
    takes(3, "0 by 3 limbs", 0, a -> a.mul(2, 1, 0), limbs(3), B0, B1);
    takes(0, "0 by 0", 0, a -> a.mul(1, 0, 0), B0, B1);
    takes(4 + 4, "2 limbs onto themselves", 4, a -> a.mul(0, 0, 0), limbs(2));
    slides(1, "both at once", Checks.withGap(15, 0, B2, B2, limbs(14)), a -> a.mul(1, 3, 3));
    slides(2, "then the product", Checks.withGap(17, 0, limbs(5), limbs(5), B0), a -> a.mul(3, 1, 2));
    Checks.says("Promise 12: BAD_HANDLE");
    NumberArena w = Checks.arena(16, 8, 1);
    for (int h : new int[] {-1, 1, 24}) {
      badHandles("mul", h, w.mul(h, 0, 0), w.mul(0, h, 0), w.mul(0, 0, h));
    }
  }

  private static void divmod() {
    divmodNotWanted();
    divmodZeroAndAlias();
    divmodQuotients();
    divmodTakes();
    divmodTakesOneByOne();
    Checks.says("Promise 13: BAD_HANDLE");
    NumberArena w = Checks.arena(16, 8, 1, 1);
    w.setLimb(0, 0, 1);
    for (int h : new int[] {-2, 2, 24}) {
      badHandles("divmod", h, w.divmod(h, 0, 0, 0), w.divmod(0, h, 0, 0));
      badHandles("divmod", h, w.divmod(0, 1, h, 0), w.divmod(0, 1, 0, h));
    }
    badHandles("divmod", NONE, w.divmod(0, 1, NONE, 0), w.divmod(0, 1, 0, NONE));
  }

  private static void divmodNotWanted() {
    Checks.says("Promise 13: (NONE: not wanted)");
    NumberArena x = Checks.arena(40, 8, 2, 1, 1, 1);
    Checks.set(x, 0, 1000000);
    Checks.set(x, 1, 777);
    Checks.changesNothing(x, "neither is wanted", 1, a -> a.divmod(NONE, NONE, 0, 1));
    Checks.due("the quotient alone", x.divmod(2, NONE, 0, 1), 1);
    holds(x, 2, Checks.big(1287));
    holds(x, 3, B0);
    Checks.set(x, 2, 5);
    Checks.due("the rest alone", x.divmod(NONE, 3, 0, 1), 1);
    holds(x, 2, Checks.big(5));
    holds(x, 3, Checks.big(1));
  }

  private static void divmodZeroAndAlias() {
    Checks.says("Promise 13: ZERO: b is 0");
    NumberArena x = Checks.withFree(20, limbs(2), B0, B2, B2);
    Checks.changesNothing(x, "by 0", ZERO, a -> a.divmod(2, 3, 0, 1));
    Checks.changesNothing(x, "0 by 0", ZERO, a -> a.divmod(NONE, NONE, 1, 1));
    Checks.changesNothing(x, "ZERO ahead of ALIAS", ZERO, a -> a.divmod(2, 2, 0, 1));
    Checks.says("Promise 13: ALIAS: q is r, and a handle");
    Checks.changesNothing(x, "q is r", ALIAS, a -> a.divmod(2, 2, 0, 3));
    Checks.due("q is r, and none", x.divmod(NONE, NONE, 2, 3), 1);
    Checks.due("q is a, r is b", x.divmod(2, 3, 2, 3), 1);
    Checks.says("Promise 13: ZERO and ALIAS ahead of NO_ROOM");
    NumberArena y = Checks.withFree(0, limbs(9), B0, B2, limbs(5));
    Checks.changesNothing(y, "by 0", ZERO, a -> a.divmod(2, 3, 0, 1));
    Checks.changesNothing(y, "q is r", ALIAS, a -> a.divmod(2, 2, 0, 3));
  }

  private static void quotient(BigInteger a, BigInteger b) {
    NumberArena x = Checks.arena(800, 8, 64, 64, 64, 64);
    BigInteger[] due = a.divideAndRemainder(b);
    Checks.set(x, 0, a);
    Checks.set(x, 1, b);
    Checks.due(a + " by " + b, x.divmod(2, 3, 0, 1), Checks.lengthOf(due[0]));
    holds(x, 2, due[0]);
    holds(x, 3, due[1]);
  }

  private static void divmodQuotients() {
    Checks.says("Promise 13: a by b, downwards, the rest: the LENGTH of the quotient");
    quotient(HIGHEST, B1);
    quotient(HIGHEST, HIGHEST);
    quotient(HIGHEST.subtract(B1), HIGHEST);
    quotient(HIGHEST, HIGHEST.subtract(B1));
    quotient(HIGHEST, Checks.power(2, 945));
    quotient(HIGHEST, limbs(1));
    quotient(Checks.power(2, 959), Checks.power(2, 480).add(B1));
    quotient(B0, B1);
    quotient(B0, HIGHEST);
    quotient(B1, HIGHEST);
    NumberArena x = Checks.arena(60, 8, 3, 2, 3, 3);
    Checks.set(x, 0, limbs(3));
    Checks.set(x, 1, limbs(2));
    Checks.due("3 limbs by 2", x.divmod(2, 3, 0, 1), 2);
    Checks.due("less by more behind it", x.divmod(2, 3, 1, 0), 0);
    holds(x, 2, B0);
    holds(x, 3, limbs(2));
  }

  private static void divmodTakes() {
    Checks.says("Promise 13: la + 1, then lb, then la - lb + 1 (if above 0); then as q and r want");
    takes(4 + 2 + 2 + 2 + 2, "3 limbs by 2", 2, a -> a.divmod(2, 3, 0, 1),
        Checks.power(2, 44), Checks.power(2, 29).subtract(B1), B0, B0);
    takes(4 + 2 + 2 + 2, "3 limbs by 2, q alone", 2, a -> a.divmod(2, NONE, 0, 1),
        Checks.power(2, 44), Checks.power(2, 29).subtract(B1), B0);
    takes(4 + 2 + 2 + 2, "3 limbs by 2, r alone", 2, a -> a.divmod(NONE, 2, 0, 1),
        Checks.power(2, 44), Checks.power(2, 29).subtract(B1), B0);
    takes(4 + 2 + 2, "3 limbs by 2, neither", 2, a -> a.divmod(NONE, NONE, 0, 1),
        Checks.power(2, 44), Checks.power(2, 29).subtract(B1));
    takes(3 + 2 + 1, "2 limbs by 2 where they fit", 1, a -> a.divmod(2, 3, 0, 1),
        limbs(2), limbs(2), B0, B0);
    takes(2 + 2, "1 limb by 2", 0, a -> a.divmod(2, 3, 0, 1), limbs(1), limbs(2), B0, B0);
    takes(2 + 3, "1 limb by 3", 0, a -> a.divmod(2, 3, 0, 1), limbs(1), limbs(3), B0, B0);
    takes(1 + 1, "0 by 1 limb", 0, a -> a.divmod(2, 3, 0, 1), B0, B1, B1, B1);
    takes(3 + 3 + 2, "2 limbs by 3 in a room of 1", 0, a -> a.divmod(2, 3, 0, 1),
        limbs(2), limbs(3), B0, B0);
    places();
  }

  private static void places() {
    Checks.says("Promise 13: then as q and r want");
    NumberArena x = Checks.withFree(12, Checks.power(2, 44), Checks.power(2, 29).subtract(B1), B0, B0);
    Checks.due("divmod", x.divmod(2, 3, 0, 1), 2);
    Checks.due("q ahead of r", x.look(2, 2), x.about(6) - 4);
    Checks.due("r behind q", x.look(3, 2), x.about(6) - 2);
  }

  private static void divmodTakesOneByOne() {
    Checks.says("Promise 13: ahead la + 1, then lb, then la - lb + 1: each slides if it must");
    for (int gap = 1; gap < 8; gap++) {
      int times = gap < 3 ? 1 : 2;
      NumberArena x = Checks.withGap(gap, 0, limbs(2), B1, B0, limbs(12));
      slides(times, "3, 1, 2 and 2 in a gap of " + gap, x, a -> a.divmod(3, NONE, 1, 2));
      holds(x, 3, B0);
    }
    NumberArena y = Checks.withGap(8, 0, limbs(2), B1, B0, limbs(12));
    Checks.due("3, 1, 2 and 2 in a gap of 8", y.divmod(3, NONE, 1, 2), 2);
    Checks.due("slides", y.about(2), 1);
  }

  private static void powmod() {
    Checks.says("Promise 14: ZERO: m is 0");
    NumberArena x = Checks.withFree(20, limbs(2), B0, B1, B2);
    Checks.changesNothing(x, "modulo 0", ZERO, a -> a.powmod(3, 0, 0, 1));
    Checks.changesNothing(x, "0 to the 0 modulo 0", ZERO, a -> a.powmod(1, 1, 1, 1));
    Checks.says("Promise 14: ZERO ahead of NO_ROOM");
    NumberArena y = Checks.withFree(0, limbs(9), B0, limbs(6));
    Checks.changesNothing(y, "modulo 0", ZERO, a -> a.powmod(2, 0, 0, 1));
    Checks.says("Promise 14: modulo 1 all is 0");
    Checks.due("0 to the 0 modulo 1", x.powmod(3, 1, 1, 2), 0);
    holds(x, 3, B0);
    Checks.due("to the 0 modulo 1", x.powmod(3, 0, 1, 2), 0);
    Checks.due("to the 1 modulo 1", x.powmod(3, 0, 2, 2), 0);
    Checks.says("Promise 14: 0 to the 0 is 1");
    Checks.set(x, 3, 2);
    Checks.due("0 to the 0 modulo 2", x.powmod(2, 1, 1, 3), 1);
    holds(x, 2, B1);
    Checks.due("to the 0 modulo 2", x.powmod(2, 0, 1, 3), 1);
    Checks.due("0 to the 1 modulo 2", x.powmod(2, 1, 2, 3), 0);
    powmodOfTheLongest();
    powmodTakes();
  }

  private static void powmodOfTheLongest() {
    Checks.says("Promise 14: a to the e, modulo m: its LENGTH");
    NumberArena x = Checks.arena(800, 8, 64, 64, 64, 1);
    BigInteger m = HIGHEST.subtract(B2);
    Checks.set(x, 0, HIGHEST);
    Checks.set(x, 1, m);
    BigInteger due = HIGHEST.modPow(HIGHEST, m);
    Checks.due("the highest to itself", x.powmod(2, 0, 0, 1), Checks.lengthOf(due));
    holds(x, 2, due);
    Checks.due("m to more, modulo m", x.powmod(2, 1, 0, 1), 0);
    Checks.set(x, 3, 1);
    Checks.due("above m, to the 1", x.powmod(2, 0, 3, 1), 1);
    holds(x, 2, B2);
    Checks.due("1 to much", x.powmod(2, 3, 0, 1), 1);
  }

  private static void powmodTakes() {
    Checks.says("Promise 14: lm, lm, then the greater of la and 2 lm, and 1, cells are TAKEN");
    BigInteger m = Checks.power(2, 20);
    takes(2 + 2 + 5 + 2, "la below 2 lm", 2, a -> a.powmod(3, 0, 1, 2), limbs(1), B2, m.subtract(B1), B0);
    takes(2 + 2 + 5 + 2, "la is 2 lm", 2, a -> a.powmod(3, 0, 1, 2), limbs(4), B1, m, B0);
    takes(2 + 2 + 6 + 2, "la above 2 lm", 2, a -> a.powmod(3, 0, 1, 2), limbs(5), B1, m, B0);
    takes(1 + 1 + 3, "0 to the 0", 1, a -> a.powmod(0, 0, 0, 1), B0, B2);
    takes(1 + 1 + 3, "modulo 1", 0, a -> a.powmod(0, 0, 0, 1), B0, B1);
    NumberArena x = Checks.withGap(2, 2, B2, limbs(10), B0);
    slides(1, "the third at once: 3 in a gap of 2, behind 1 and 1", x, a -> a.powmod(3, 1, 1, 1));
    NumberArena y = Checks.withGap(1, 0, B2, limbs(14));
    slides(2, "the first, then the second: 1 and 1 in a gap of 1", y, a -> a.powmod(1, 1, 1, 1));
    Checks.says("Promise 14: BAD_HANDLE");
    NumberArena w = Checks.arena(16, 8, 1);
    w.setLimb(0, 0, 1);
    for (int h : new int[] {-1, 1, 24}) {
      badHandles("powmod", h, w.powmod(h, 0, 0, 0), w.powmod(0, h, 0, 0));
      badHandles("powmod", h, w.powmod(0, 0, h, 0), w.powmod(0, 0, 0, h));
    }
  }

  private static void gcd() {
    Checks.says("Promise 15: of 0 and b it is b");
    NumberArena x = Checks.arena(400, 8, 64, 64, 64);
    Checks.set(x, 0, HIGHEST);
    Checks.due("of 0 and b", x.gcd(2, 1, 0), 64);
    holds(x, 2, HIGHEST);
    Checks.due("of a and 0", x.gcd(2, 0, 1), 64);
    holds(x, 2, HIGHEST);
    Checks.due("of 0 and 0", x.gcd(2, 1, 1), 0);
    holds(x, 2, B0);
    Checks.set(x, 1, 1);
    Checks.due("of a and 1", x.gcd(2, 0, 1), 1);
    holds(x, 2, B1);
    Checks.due("of a and a", x.gcd(1, 0, 0), 64);
    holds(x, 1, HIGHEST);
    Checks.says("Promise 15: twice the greater of la and lb cells are TAKEN at once; NO_ROOM");
    takes(6, "3 limbs and 2", 1, a -> a.gcd(2, 0, 1), limbs(3), limbs(2).subtract(B1), B0);
    takes(6, "2 limbs and 3", 1, a -> a.gcd(2, 1, 0), limbs(3), limbs(2).subtract(B1), B0);
    takes(6 + 3, "3 limbs and 0", 3, a -> a.gcd(1, 0, 1), limbs(3), B0);
    takes(0, "0 and 0", 0, a -> a.gcd(1, 0, 0), B0, B1);
    slides(1, "4 at once in a gap of 3", Checks.withGap(3, 0, limbs(2), limbs(11)), a -> a.gcd(1, 1, 1));
    slides(2, "then the result", Checks.withGap(5, 0, limbs(2), B0, limbs(11)), a -> a.gcd(2, 1, 2));
    Checks.says("Promise 15: BAD_HANDLE");
    NumberArena w = Checks.arena(16, 8, 1);
    for (int h : new int[] {-1, 1, 24}) {
      badHandles("gcd", h, w.gcd(h, 0, 0), w.gcd(0, h, 0), w.gcd(0, 0, h));
    }
  }

  private static void root() {
    Checks.says("Promise 16: the greatest number whose square is not above a");
    BigInteger[] roots = {B1, B2, Checks.big(181), Checks.big(32767), Checks.big(32768),
        Checks.power(2, 120), Checks.power(2, 480).subtract(B1)};
    for (BigInteger r : roots) {
      NumberArena x = Checks.arena(800, 8, 64, 64);
      Checks.set(x, 0, r.pow(2));
      Checks.due("of the square of " + r, x.root(1, 0), Checks.lengthOf(r));
      holds(x, 1, r);
      Checks.set(x, 0, r.pow(2).subtract(B1));
      Checks.due("of one below the square of " + r, x.root(1, 0), Checks.lengthOf(r.subtract(B1)));
      holds(x, 1, r.subtract(B1));
      Checks.set(x, 0, r.add(B1).pow(2).subtract(B1).min(HIGHEST));
      Checks.due("of the highest that has the root " + r, x.root(1, 0), Checks.lengthOf(r));
      holds(x, 1, r);
    }
    Checks.says("Promise 16: 3 * (la + 1) cells are TAKEN at once; NO_ROOM");
    takes(12 + 2, "of 3 limbs", 2, a -> a.root(1, 0), limbs(3), B0);
    takes(12, "onto itself", 2, a -> a.root(0, 0), limbs(3));
    takes(3, "of 0", 0, a -> a.root(0, 0), B0);
    slides(1, "6 at once in a gap of 5", Checks.withGap(5, 0, B1, limbs(10)), a -> a.root(1, 1));
    slides(2, "then the root", Checks.withGap(13, 0, limbs(3), B0), a -> a.root(2, 1));
    Checks.says("Promise 16: BAD_HANDLE");
    NumberArena w = Checks.arena(16, 8, 1);
    for (int h : new int[] {-1, 1, 24}) {
      badHandles("root", h, w.root(h, 0), w.root(0, h));
    }
  }

  private static void shift() {
    Checks.says("Promise 17: BAD_ARG: n is not -960 .. 960");
    NumberArena x = Checks.withFree(5, B1, limbs(2));
    for (int n : new int[] {Integer.MIN_VALUE, -961, 961, Integer.MAX_VALUE}) {
      Checks.changesNothing(x, "shift(0, 1, " + n + ")", BAD_ARG, a -> a.shift(0, 1, n));
    }
    NumberArena y = Checks.arena(140, 8, 64, 64);
    Checks.set(y, 0, HIGHEST);
    Checks.due("by -960", y.shift(1, 0, -960), 0);
    Checks.due("by -959", y.shift(1, 0, -959), 1);
    holds(y, 1, B1);
    Checks.due("by 959", y.shift(1, 1, 959), 64);
    holds(y, 1, Checks.power(2, 959));
    Checks.due("by 0", y.shift(1, 0, 0), 64);
    holds(y, 1, HIGHEST);
    NumberArena zero = Checks.arena(16, 8, 1);
    Checks.due("0 by 960", zero.shift(0, 0, 960), 0);
    Checks.due("0 by -960", zero.shift(0, 0, -960), 0);
    shiftDownwards();
    shiftTooLong();
  }

  private static void shiftDownwards() {
    Checks.says("Promise 17: a times 2 to the n, downwards if n is below 0");
    BigInteger value = Checks.power(7, 32);
    for (int n = -value.bitLength() - 1; n <= 90 - value.bitLength(); n++) {
      NumberArena x = Checks.arena(40, 8, 6, 6);
      Checks.set(x, 0, value);
      BigInteger due = value.shiftLeft(n);
      Checks.due("7^32 by " + n, x.shift(1, 0, n), Checks.lengthOf(due));
      holds(x, 1, due);
      Checks.due("onto itself", x.shift(0, 0, n), Checks.lengthOf(due));
      holds(x, 0, due);
    }
  }

  private static void shiftTooLong() {
    Checks.says("Promise 17: TOO_LONG");
    NumberArena x = Checks.withFree(64, B1, limbs(64).shiftRight(1), B0);
    Checks.changesNothing(x, "1 by 960", TOO_LONG, a -> a.shift(0, 0, 960));
    Checks.changesNothing(x, "959 bits by 2", TOO_LONG, a -> a.shift(2, 1, 2));
    Checks.due("959 bits by 1", x.shift(2, 1, 1), 64);
    holds(x, 2, HIGHEST.subtract(B1));
    Checks.says("Promise 17: TOO_LONG ahead of NO_ROOM");
    Checks.changesNothing(Checks.withFree(0, B1, limbs(15)), "1 by 960", TOO_LONG, a -> a.shift(0, 0, 960));
    Checks.says("Promise 17: NO_ROOM");
    takes(4, "3 limbs by 1", 4, a -> a.shift(0, 0, 1), limbs(3));
    takes(2, "1 by 15", 2, a -> a.shift(0, 0, 15), B1);
    takes(0, "1 by 14", 1, a -> a.shift(0, 0, 14), B1);
    takes(2, "3 limbs by -15", 2, a -> a.shift(1, 0, -15), limbs(3), B0);
    takes(3, "3 limbs by -14", 3, a -> a.shift(1, 0, -14), limbs(3), B0);
    Checks.says("Promise 17: BAD_HANDLE");
    NumberArena w = Checks.arena(16, 8, 1);
    for (int h : new int[] {-1, 1, 24}) {
      badHandles("shift", h, w.shift(h, 0, 0), w.shift(0, h, 0));
    }
  }

  private static void compare() {
    Checks.says("Promise 18: whether a is below b, b itself, above: 0, 1, 2");
    BigInteger[] rising = {B0, B1, limbs(1), Checks.power(2, 15), Checks.power(2, 15).add(B1),
        Checks.power(2, 16), limbs(2), Checks.power(2, 945), HIGHEST.subtract(B1), HIGHEST};
    for (int i = 0; i < rising.length; i++) {
      for (int k = 0; k < rising.length; k++) {
        NumberArena x = Checks.withFree(0, rising[i], rising[k]);
        Checks.due(rising[i] + " and " + rising[k], x.compare(0, 1), i < k ? 0 : i == k ? 1 : 2);
      }
    }
    Checks.due("a room of zeros", Checks.arena(20, 8, 1, 9).compare(0, 1), 1);
    Checks.says("Promise 18: BAD_HANDLE");
    NumberArena w = Checks.arena(16, 8, 1);
    for (int h : new int[] {-1, 1, 24}) {
      badHandles("compare", h, w.compare(h, 0), w.compare(0, h));
    }
  }

  // The symbols of 0, 1 .. 9 by m; those by an even m are BAD_ARG.
  private static void jacobiOfSmallNumbers() {
    int[][] due = {
      {}, {2, 2, 2, 2, 2, 2, 2, 2, 2, 2}, {}, {1, 2, 0, 1, 2, 0, 1, 2, 0, 1}, {},
      {1, 2, 0, 0, 2, 1, 2, 0, 0, 2}, {}, {1, 2, 2, 0, 2, 0, 0, 1, 2, 2}, {},
      {1, 2, 2, 1, 2, 2, 1, 2, 2, 1}, {}, {1, 2, 0, 2, 2, 2, 0, 0, 0, 2}, {},
      {1, 2, 0, 2, 2, 0, 0, 0, 0, 2}, {}, {1, 2, 2, 1, 2, 1, 1, 0, 2, 1}, {},
      {1, 2, 2, 0, 2, 0, 0, 0, 2, 2},
    };
    for (int m = 0; m < due.length; m++) {
      NumberArena x = Checks.arena(16, 8, 2, 2);
      x.setLimb(1, 0, m);
      for (int a = 0; a < 10; a++) {
        x.setLimb(0, 0, a);
        Checks.due(a + " by " + m, x.jacobi(0, 1), m % 2 == 0 ? BAD_ARG : due[m][a]);
      }
    }
  }

  private static void jacobi() {
    Checks.says("Promise 19: BAD_ARG: m is even");
    NumberArena x = Checks.withFree(9, limbs(2), B0, limbs(2).subtract(B1), B1);
    Checks.changesNothing(x, "by 0", BAD_ARG, a -> a.jacobi(0, 1));
    Checks.changesNothing(x, "by an even one", BAD_ARG, a -> a.jacobi(0, 2));
    Checks.says("Promise 19: the JACOBI symbol of a by m, and 1: 0, 1, 2");
    Checks.due("by 1", x.jacobi(0, 3), 2);
    Checks.due("0 by 1", x.jacobi(1, 3), 2);
    Checks.due("0 by more", x.jacobi(1, 0), 1);
    Checks.due("1 by more", x.jacobi(3, 0), 2);
    Checks.due("by itself", x.jacobi(0, 0), 1);
    Checks.due("-1 by what is 3 modulo 4", x.jacobi(2, 0), 0);
    jacobiOfSmallNumbers();
    Checks.says("Promise 19: BAD_ARG ahead of NO_ROOM");
    NumberArena y = Checks.withFree(0, limbs(9), B0, limbs(6));
    Checks.changesNothing(y, "by 0", BAD_ARG, a -> a.jacobi(0, 1));
    Checks.says("Promise 19: la, then lm cells are TAKEN; NO_ROOM");
    takes(3 + 2, "3 limbs by 2", 2, a -> a.jacobi(0, 1), Checks.power(2, 44), limbs(2));
    takes(2 + 3, "2 limbs by 3", 2, a -> a.jacobi(1, 0), limbs(3), Checks.power(2, 28));
    takes(1, "0 by 1", 2, a -> a.jacobi(0, 1), B0, B1);
    slides(2, "1, then 1 in a gap of 1", Checks.withGap(1, 0, B1, limbs(14)), a -> a.jacobi(1, 1));
    Checks.says("Promise 19: BAD_HANDLE");
    NumberArena w = Checks.arena(16, 8, 1);
    w.setLimb(0, 0, 1);
    for (int h : new int[] {-1, 1, 24}) {
      badHandles("jacobi", h, w.jacobi(h, 0), w.jacobi(0, h));
    }
  }
}
