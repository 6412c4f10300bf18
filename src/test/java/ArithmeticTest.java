import java.math.BigInteger;
import java.util.Random;

/** Promises 10 to 19: sums, products, quotients, powers and what else is reckoned in the cells. */
public final class ArithmeticTest {
  private static final int NONE = -1;
  private static final int BAD_HANDLE = -2;
  private static final int BAD_ARG = -3;
  private static final int NO_ROOM = -4;
  private static final int NEGATIVE = -5;
  private static final int ZERO = -6;
  private static final int ALIAS = -7;
  private static final int TOO_LONG = -8;
  private static final BigInteger HIGHEST = Checks.power(2, 960).subtract(BigInteger.ONE);

  public static void main(String[] args) {
    add();
    addTakes();
    sub();
    mul();
    mulTakes();
    divmod();
    divmodOfEdges();
    divmodTakes();
    divmodRefused();
    powmod();
    powmodTakes();
    gcd();
    gcdTakes();
    root();
    rootTakes();
    shift();
    compare();
    jacobi();
    jacobiTakes();
    Checks.finish();
  }

  private static void holds(String what, NumberArena x, int h, BigInteger value) {
    Checks.due(what, Checks.get(x, h), value);
  }

  private static void holds(String what, NumberArena x, int h, long value) {
    holds(what, x, h, Checks.big(value));
  }

  private static void add() {
    NumberArena x = Checks.arena(800, 8, 64, 64, 64);
    Checks.set(x, 0, HIGHEST);
    Checks.set(x, 1, 1);
    Checks.due("2^960 - 1 + 1", x.add(2, 0, 1), TOO_LONG);
    holds("is as it was", x, 2, 0);
    Checks.due("add(2, 1, 1)", x.add(2, 1, 1), 1);
    holds("1 + 1", x, 2, 2);
    Checks.set(x, 1, 0);
    Checks.due("2^960 - 1 + 0", x.add(2, 0, 1), 64);
    holds("2^960 - 1", x, 2, HIGHEST);
    Checks.set(x, 1, 32767);
    Checks.due("onto itself", x.add(1, 1, 1), 2);
    holds("65534", x, 1, 65534);
    Checks.due("add(3, 0, 0) before TOO_LONG", x.add(3, 0, 0), BAD_HANDLE);
    Checks.due("add(0, -1, 0)", x.add(0, -1, 0), BAD_HANDLE);
    Checks.due("add(0, 0, 9)", x.add(0, 0, 9), BAD_HANDLE);
  }

  private static void addTakes() {
    NumberArena x = Checks.arena(16, 8, 2, 2, 1);
    Checks.set(x, 0, 40000);
    Checks.set(x, 1, 5);
    Checks.due("2 cells in a run of 1", x.add(2, 0, 1), 2);
    Checks.due("a new run", x.look(2, 2), 5);
    Checks.due("of the length", x.look(2, 1), 2);
    Checks.due("the old one went", x.about(0), 6);
    holds("40005", x, 2, 40005);
    Checks.due("0 + 5 in a run of 2", x.add(0, 1, 1), 1);
    Checks.due("stays there", x.look(0, 2), 0);
    Checks.due("with its room", x.look(0, 1), 2);
    Checks.due("and 0 above", x.cell(1), 0);
    NumberArena y = Checks.arena(16, 8, 1, 7, 7);
    Checks.set(y, 0, 32767);
    Checks.due("2 cells, 1 is free", y.add(0, 0, 0), NO_ROOM);
    Checks.due("slid", y.about(2), 1);
    holds("as it was", y, 0, 32767);
    Checks.due("room as it was", y.look(0, 1), 1);
  }

  private static void sub() {
    NumberArena x = Checks.arena(200, 8, 64, 64, 1);
    Checks.set(x, 0, Checks.power(2, 945));
    Checks.set(x, 1, 1);
    Checks.due("2^945 - 1", x.sub(0, 0, 1), 63);
    holds("2^945 - 1", x, 0, Checks.power(2, 945).subtract(BigInteger.ONE));
    Checks.due("1 - much", x.sub(2, 1, 0), NEGATIVE);
    Checks.due("a - a", x.sub(1, 0, 0), 0);
    holds("0", x, 1, 0);
    Checks.due("0 - 0", x.sub(1, 1, 1), 0);
    Checks.due("BAD_HANDLE ahead of NEGATIVE", x.sub(5, 1, 0), BAD_HANDLE);
    Checks.due("sub(0, 3, 0)", x.sub(0, 3, 0), BAD_HANDLE);
    Checks.due("sub(0, 0, -1)", x.sub(0, 0, -1), BAD_HANDLE);
    Checks.due("63 cells", x.sub(2, 0, 1), 63);
    Checks.due("room", x.look(2, 1), 63);
    NumberArena y = Checks.arena(16, 8, 8, 1, 6);
    Checks.set(y, 0, Checks.power(2, 30));
    Checks.due("3 cells, 1 is free", y.sub(1, 0, 1), NO_ROOM);
    Checks.due("NEGATIVE ahead of NO_ROOM", y.sub(1, 1, 0), NEGATIVE);
    Checks.due("that slides nothing", y.about(2), 1);
  }

  private static void mul() {
    NumberArena x = Checks.arena(800, 8, 64, 64, 64);
    BigInteger half = Checks.power(2, 480).subtract(BigInteger.ONE);
    Checks.set(x, 0, half);
    Checks.due("32 limbs by 32", x.mul(1, 0, 0), 64);
    holds("square", x, 1, half.multiply(half));
    Checks.set(x, 2, 1);
    Checks.due("64 limbs by 1", x.mul(2, 1, 2), TOO_LONG);
    Checks.set(x, 2, 0);
    Checks.due("64 limbs by 0", x.mul(2, 1, 2), 0);
    holds("0", x, 2, 0);
    Checks.set(x, 2, 3);
    Checks.due("onto itself", x.mul(2, 2, 2), 1);
    holds("9", x, 2, 9);
    Checks.due("BAD_HANDLE ahead of TOO_LONG", x.mul(3, 1, 1), BAD_HANDLE);
    Checks.due("mul(0, 3, 0)", x.mul(0, 3, 0), BAD_HANDLE);
    Checks.due("mul(0, 0, 3)", x.mul(0, 0, 3), BAD_HANDLE);
  }

  private static void mulTakes() {
    NumberArena x = Checks.arena(19, 8, 2, 3, 1);
    Checks.set(x, 0, 40000);
    Checks.set(x, 1, Checks.power(2, 30));
    Checks.due("4 cells behind 5 taken ahead", x.mul(2, 0, 1), 4);
    Checks.due("place", x.look(2, 2), 11);
    Checks.due("cells", x.about(0), 9);
    Checks.due("no slide", x.about(2), 0);
    Checks.due("5 ahead slide", x.mul(2, 0, 1), 4);
    Checks.due("one slide", x.about(2), 1);
    Checks.due("place", x.look(2, 2), 5);
    Checks.due("room of 8 is left", x.alloc(8), 3);
    Checks.due("5 ahead are not there", x.mul(2, 0, 1), NO_ROOM);
    Checks.due("slides", x.about(2), 2);
    Checks.set(x, 1, 0);
    Checks.due("0 and 2 ahead are", x.mul(2, 0, 1), 0);
    Checks.due("none for 0 by 0", x.mul(2, 1, 1), 0);
    Checks.due("slides", x.about(2), 2);
    Checks.due("one cell more", x.alloc(2), 4);
    Checks.due("2 ahead are not there, though the product is 0", x.mul(2, 0, 1), NO_ROOM);
    Checks.due("none for 0 by 0, still", x.mul(2, 1, 1), 0);
  }

  private static void divmod() {
    NumberArena x = Checks.arena(800, 8, 64, 64, 64, 64);
    BigInteger b = Checks.power(2, 465).add(Checks.power(3, 90));
    BigInteger[] due = HIGHEST.divideAndRemainder(b);
    Checks.set(x, 0, HIGHEST);
    Checks.set(x, 1, b);
    Checks.due("divmod(2, 3, 0, 1)", x.divmod(2, 3, 0, 1), Checks.lengthOf(due[0]));
    holds("quotient", x, 2, due[0]);
    holds("rest", x, 3, due[1]);
    Checks.due("less by more", x.divmod(2, 3, 1, 0), 0);
    holds("0", x, 2, 0);
    holds("a itself", x, 3, b);
    Checks.due("only the rest", x.divmod(NONE, 2, 0, 1), Checks.lengthOf(due[0]));
    holds("rest", x, 2, due[1]);
    Checks.due("neither", x.divmod(NONE, NONE, 0, 1), Checks.lengthOf(due[0]));
    Checks.due("onto a and b", x.divmod(1, 0, 0, 1), Checks.lengthOf(due[0]));
    holds("quotient in b", x, 1, due[0]);
    holds("rest in a", x, 0, due[1]);
    Checks.set(x, 2, 0);
    Checks.due("by 0", x.divmod(0, 1, 0, 2), ZERO);
    Checks.due("ZERO ahead of ALIAS", x.divmod(3, 3, 0, 2), ZERO);
    Checks.due("ALIAS", x.divmod(3, 3, 2, 0), ALIAS);
    Checks.due("0 by what is not", x.divmod(3, 1, 2, 0), 0);
    Checks.due("BAD_HANDLE of q", x.divmod(-2, 0, 0, 2), BAD_HANDLE);
    Checks.due("BAD_HANDLE of r", x.divmod(0, 4, 0, 2), BAD_HANDLE);
    Checks.due("BAD_HANDLE of a", x.divmod(0, 1, NONE, 2), BAD_HANDLE);
    Checks.due("BAD_HANDLE of b", x.divmod(0, 1, 0, NONE), BAD_HANDLE);
  }

  // Limbs near 0, the half and the highest: there the first guess of a digit is wrong most often.
  private static void divmodOfEdges() {
    int[] edges = {0, 1, 2, 16383, 16384, 16385, 32766, 32767};
    Random random = new Random(5);
    for (int object = 0; object < 1000; object++) {
      NumberArena x = Checks.arena(60, 8, 6, 3, 6, 3);
      for (int k = 0; k < 18; k++) {
        for (int i = 0; i < 9; i++) {
          int w = edges[random.nextInt(edges.length)];
          x.setLimb(i / 6, i % 6, i == 8 ? Math.max(1, w) : w);
        }
        BigInteger[] due = Checks.get(x, 0).divideAndRemainder(Checks.get(x, 1));
        Checks.due("divmod(2, 3, 0, 1)", x.divmod(2, 3, 0, 1), Checks.lengthOf(due[0]));
        if (k % 5 == 0) {
          holds("quotient", x, 2, due[0]);
        }
        holds("rest", x, 3, due[1]);
      }
    }
  }

  private static void divmodTakes() {
    NumberArena x = Checks.arena(40, 8, 5, 2, 1, 1);
    Checks.set(x, 0, Checks.power(2, 74));
    Checks.set(x, 1, Checks.power(2, 28).add(BigInteger.ONE));
    Checks.due("quotient of 4 limbs", x.divmod(2, 3, 0, 1), 4);
    Checks.due("no slide", x.about(2), 0);
    Checks.due("9 + 6 + 2 + 4: place of the quotient", x.look(2, 2), 21);
    Checks.due("place of the rest", x.look(3, 2), 25);
    Checks.due("room of the rest", x.look(3, 1), 2);
    Checks.due("cells", x.about(0), 13);
    Checks.due("6 + 2 + 4 ahead, from 27 on", x.divmod(2, 3, 0, 1), 4);
    Checks.due("no slide, as 39 is the end", x.about(2), 0);
    Checks.due("the runs are where they were", x.look(2, 2), 21);
    Checks.due("4 ahead do not fit behind 6 and 2", x.alloc(2), 4);
    Checks.due("divmod", x.divmod(2, 3, 0, 1), 4);
    Checks.due("a slide", x.about(2), 1);
    Checks.due("place of the quotient", x.look(2, 2), 7);
    Checks.due("place of the rest", x.look(3, 2), 11);
    Checks.set(x, 0, 5);
    Checks.due("1 limb by 2: no third take", x.divmod(2, 3, 0, 1), 0);
    Checks.due("room of the quotient", x.look(2, 1), 4);
  }

  private static void divmodRefused() {
    // 14 cells are in runs; ahead 3 + 1 + 2; then the quotient wants 1 or 2.
    NumberArena x = Checks.arena(22, 8, 6, 6, 1, 1);
    Checks.set(x, 0, 65535);
    Checks.set(x, 1, 2);
    Checks.due("quotient of 1 limb", x.divmod(2, 3, 0, 1), 1);
    Checks.set(x, 1, 1);
    Checks.due("quotient of 2 limbs", x.divmod(2, 3, 0, 1), 2);
    Checks.due("from 20 on", x.look(2, 2), 20);
    NumberArena y = Checks.arena(21, 8, 6, 6, 1, 1);
    Checks.set(y, 0, 65535);
    Checks.set(y, 1, 1);
    Checks.set(y, 2, 9);
    Checks.set(y, 3, 8);
    Checks.due("no room for the quotient", y.divmod(2, 3, 0, 1), NO_ROOM);
    Checks.due("one slide", y.about(2), 1);
    holds("q as it was", y, 2, 9);
    holds("r as it was", y, 3, 8);
    Checks.due("cells", y.about(0), 14);
    Checks.due("end", y.about(1), 14);
    NumberArena z = Checks.arena(28, 8, 6, 6, 1, 1);
    Checks.set(z, 0, Checks.power(2, 60).subtract(BigInteger.ONE));
    Checks.set(z, 1, Checks.power(2, 32).subtract(BigInteger.ONE));
    Checks.set(z, 2, 9);
    Checks.set(z, 3, 8);
    Checks.due("14 + 5 + 3 + 2, then 2 and 2, of 28", z.divmod(2, 3, 0, 1), 2);
    NumberArena w = Checks.arena(27, 8, 6, 6, 1, 1);
    Checks.set(w, 0, Checks.power(2, 60).subtract(BigInteger.ONE));
    Checks.set(w, 1, Checks.power(2, 32).subtract(BigInteger.ONE));
    Checks.set(w, 2, 9);
    Checks.set(w, 3, 8);
    Checks.due("no room for the rest", w.divmod(2, 3, 0, 1), NO_ROOM);
    holds("q as it was", w, 2, 9);
    holds("r as it was", w, 3, 8);
    Checks.due("its room, too", w.look(2, 1), 1);
    Checks.due("but without the rest", w.divmod(2, NONE, 0, 1), 2);
  }

  private static void powmod() {
    NumberArena x = Checks.arena(800, 8, 64, 64, 64, 64);
    BigInteger a = HIGHEST.subtract(Checks.power(5, 300));
    BigInteger e = Checks.power(7, 330);
    BigInteger m = HIGHEST.subtract(Checks.power(3, 500));
    Checks.set(x, 0, a);
    Checks.set(x, 1, e);
    Checks.set(x, 2, m);
    BigInteger due = a.modPow(e, m);
    Checks.due("powmod(3, 0, 1, 2)", x.powmod(3, 0, 1, 2), Checks.lengthOf(due));
    holds("power", x, 3, due);
    Checks.set(x, 1, 0);
    Checks.due("to the 0", x.powmod(3, 0, 1, 2), 1);
    holds("1", x, 3, 1);
    Checks.due("0 to the 0", x.powmod(3, 1, 1, 2), 1);
    holds("1", x, 3, 1);
    Checks.due("0 to more", x.powmod(3, 1, 0, 2), 0);
    Checks.set(x, 3, 1);
    Checks.due("0 to the 0 modulo 1", x.powmod(0, 1, 1, 3), 0);
    Checks.due("modulo 1", x.powmod(0, 2, 2, 3), 0);
    Checks.due("modulo 0", x.powmod(0, 2, 2, 1), ZERO);
    Checks.set(x, 0, 10);
    Checks.set(x, 1, 3);
    Checks.set(x, 2, 999);
    Checks.due("onto m", x.powmod(2, 0, 1, 2), 1);
    holds("1000 modulo 999", x, 2, 1);
    Checks.due("BAD_HANDLE of d", x.powmod(NONE, 0, 1, 2), BAD_HANDLE);
    Checks.due("BAD_HANDLE of a", x.powmod(0, 4, 1, 2), BAD_HANDLE);
    Checks.due("BAD_HANDLE of e", x.powmod(0, 0, 4, 2), BAD_HANDLE);
    Checks.due("BAD_HANDLE of m", x.powmod(0, 0, 1, 4), BAD_HANDLE);
  }

  private static void powmodTakes() {
    // a has 1, m has 2 limbs: 2 + 2 + 5 ahead, then the result.
    NumberArena x = Checks.arena(18, 8, 1, 1, 2, 1);
    Checks.set(x, 0, 32767);
    Checks.set(x, 1, 2);
    Checks.set(x, 2, 1000000000);
    Checks.due("result of 2 limbs", x.powmod(3, 0, 1, 2), 2);
    Checks.due("no slide", x.about(2), 0);
    Checks.due("place", x.look(3, 2), 14);
    holds("32767^2 modulo 10^9", x, 3, 32767L * 32767L % 1000000000L);
    Checks.due("now with a slide", x.powmod(3, 0, 1, 2), 2);
    Checks.due("one slide", x.about(2), 1);
    Checks.due("place", x.look(3, 2), 4);
    NumberArena y = Checks.arena(16, 8, 6, 1, 2, 1);
    Checks.set(y, 0, 5);
    Checks.set(y, 1, 2);
    Checks.set(y, 2, 32767);
    Checks.due("1 + 1 + 3 of 6", y.powmod(3, 0, 1, 2), 1);
    Checks.set(y, 0, Checks.power(2, 45));
    Checks.due("1 + 1 + 5 of 6", y.powmod(3, 0, 1, 2), NO_ROOM);
    holds("as it was", y, 3, 25);
    Checks.set(y, 0, Checks.power(2, 44));
    Checks.due("1 + 1 + 4 of 6", y.powmod(3, 0, 1, 2), 1);
    Checks.due("one slide in all", y.about(2), 1);
  }

  private static void gcd() {
    NumberArena x = Checks.arena(800, 8, 64, 64, 64);
    BigInteger a = Checks.power(6, 350);
    BigInteger b = Checks.power(10, 280);
    Checks.set(x, 0, a);
    Checks.set(x, 1, b);
    Checks.due("gcd(2, 0, 1)", x.gcd(2, 0, 1), Checks.lengthOf(Checks.power(2, 280)));
    holds("2^280", x, 2, Checks.power(2, 280));
    Checks.set(x, 2, 0);
    Checks.due("of 0 and b", x.gcd(2, 2, 1), Checks.lengthOf(b));
    holds("b", x, 2, b);
    Checks.set(x, 2, 0);
    Checks.due("of a and 0", x.gcd(1, 0, 2), Checks.lengthOf(a));
    holds("a", x, 1, a);
    Checks.due("of 0 and 0", x.gcd(1, 2, 2), 0);
    holds("0", x, 1, 0);
    BigInteger before = BigInteger.ONE;
    BigInteger last = BigInteger.ONE;
    while (before.add(last).bitLength() <= 960) {
      BigInteger next = before.add(last);
      before = last;
      last = next;
    }
    Checks.set(x, 0, last);
    Checks.set(x, 1, before);
    Checks.due("of two that take the most steps", x.gcd(2, 0, 1), 1);
    holds("1", x, 2, 1);
    Checks.due("gcd(3, 0, 1)", x.gcd(3, 0, 1), BAD_HANDLE);
    Checks.due("gcd(0, -1, 1)", x.gcd(0, -1, 1), BAD_HANDLE);
    Checks.due("gcd(0, 1, 3)", x.gcd(0, 1, 3), BAD_HANDLE);
  }

  private static void gcdTakes() {
    NumberArena x = Checks.arena(16, 8, 3, 4, 1);
    Checks.set(x, 0, Checks.power(2, 30));
    Checks.set(x, 1, 32768);
    Checks.due("6 ahead, then 2", x.gcd(2, 0, 1), 2);
    Checks.due("place", x.look(2, 2), 14);
    Checks.due("no slide", x.about(2), 0);
    Checks.set(x, 1, Checks.power(2, 45));
    Checks.due("8 ahead are not there", x.gcd(2, 0, 1), NO_ROOM);
    Checks.due("slid once", x.about(2), 1);
    Checks.due("place", x.look(2, 2), 7);
    Checks.set(x, 1, 0);
    Checks.set(x, 0, 0);
    Checks.due("alloc", x.alloc(7), 3);
    Checks.due("0 and 0 take nothing", x.gcd(2, 0, 1), 0);
    Checks.due("slid once", x.about(2), 1);
  }

  private static void root() {
    NumberArena x = Checks.arena(800, 8, 64, 64);
    BigInteger[] values = {
      BigInteger.ZERO, BigInteger.ONE, Checks.big(2), Checks.big(3), Checks.big(4), Checks.big(8),
      Checks.big(9), Checks.big(15), Checks.big(16), Checks.big(17), Checks.big(32768), HIGHEST,
      Checks.power(2, 959), Checks.power(3, 600), Checks.power(3, 600).subtract(BigInteger.ONE),
      Checks.power(2, 480).subtract(BigInteger.ONE).pow(2),
      Checks.power(2, 480).subtract(BigInteger.ONE).pow(2).subtract(BigInteger.ONE),
    };
    for (BigInteger value : values) {
      Checks.set(x, 0, value);
      Checks.due("root of " + value, x.root(1, 0), Checks.lengthOf(value.sqrt()));
      holds("root of " + value, x, 1, value.sqrt());
    }
    Checks.set(x, 0, 1000001);
    Checks.due("onto itself", x.root(0, 0), 1);
    holds("1000", x, 0, 1000);
    Checks.due("root(2, 0)", x.root(2, 0), BAD_HANDLE);
    Checks.due("root(0, 2)", x.root(0, 2), BAD_HANDLE);
  }

  private static void rootTakes() {
    NumberArena x = Checks.arena(20, 8, 3, 1);
    Checks.set(x, 0, Checks.power(2, 44));
    Checks.due("12 ahead, then 2", x.root(1, 0), 2);
    Checks.due("place", x.look(1, 2), 16);
    Checks.due("no slide", x.about(2), 0);
    Checks.due("again, slid", x.root(1, 0), 2);
    Checks.due("one slide", x.about(2), 1);
    Checks.due("place", x.look(1, 2), 3);
    Checks.due("alloc", x.alloc(4), 2);
    Checks.due("12 of 11", x.root(1, 0), NO_ROOM);
    Checks.set(x, 0, 9);
    Checks.due("6 of 11", x.root(1, 0), 1);
    Checks.due("alloc", x.alloc(9), 3);
    Checks.set(x, 0, 0);
    Checks.due("3 of 2 though it is 0", x.root(1, 0), NO_ROOM);
    holds("as it was", x, 1, 3);
  }

  private static void shift() {
    for (int n : new int[] {0, 1, 14, 15, 16, 29, 30, 31, 100, 940}) {
      NumberArena x = Checks.arena(800, 8, 64, 64);
      BigInteger value = Checks.big(1000003);
      Checks.set(x, 0, value);
      Checks.due("shift by " + n, x.shift(1, 0, n), Checks.lengthOf(value.shiftLeft(n)));
      holds("shift by " + n, x, 1, value.shiftLeft(n));
      Checks.due("back", x.shift(1, 1, -n), 2);
      holds("back", x, 1, value);
      Checks.set(x, 0, HIGHEST);
      Checks.due("down by " + n, x.shift(1, 0, -n), Checks.lengthOf(HIGHEST.shiftRight(n)));
      holds("down by " + n, x, 1, HIGHEST.shiftRight(n));
    }
    NumberArena x = Checks.arena(800, 8, 64, 64, 1);
    Checks.set(x, 0, HIGHEST);
    Checks.due("by -960", x.shift(1, 0, -960), 0);
    Checks.due("by -959", x.shift(1, 0, -959), 1);
    holds("1", x, 1, 1);
    Checks.due("by 960", x.shift(1, 1, 960), TOO_LONG);
    Checks.due("by 959", x.shift(1, 1, 959), 64);
    Checks.due("highest by 1", x.shift(1, 0, 1), TOO_LONG);
    Checks.due("highest by 960", x.shift(1, 0, 960), TOO_LONG);
    for (int n : new int[] {-961, 961, Integer.MAX_VALUE, Integer.MIN_VALUE}) {
      Checks.due("by " + n, x.shift(1, 0, n), BAD_ARG);
      Checks.due("of a bad handle by " + n, x.shift(1, 3, n), BAD_HANDLE);
    }
    Checks.due("0 by 960", x.shift(2, 2, 960), 0);
    Checks.due("shift(3, 0, 0)", x.shift(3, 0, 0), BAD_HANDLE);
    NumberArena y = Checks.arena(16, 8, 1, 14);
    Checks.set(y, 0, 3);
    Checks.due("one cell is free", y.shift(0, 0, 14), NO_ROOM);
    holds("as it was", y, 0, 3);
    Checks.due("TOO_LONG ahead of NO_ROOM", y.shift(0, 0, 959), TOO_LONG);
    Checks.due("one slide", y.about(2), 1);
    Checks.due("its own run is enough", y.shift(0, 0, 13), 1);
  }

  private static void compare() {
    NumberArena x = Checks.arena(80, 8, 10, 10, 3);
    Checks.set(x, 0, Checks.power(2, 100));
    Checks.set(x, 1, Checks.power(2, 100).add(BigInteger.ONE));
    Checks.due("below", x.compare(0, 1), 0);
    Checks.due("above", x.compare(1, 0), 2);
    Checks.due("itself", x.compare(1, 1), 1);
    x.setLimb(1, 0, 0);
    Checks.due("as great", x.compare(0, 1), 1);
    Checks.due("0 is below", x.compare(2, 1), 0);
    Checks.due("shorter is below", x.compare(1, 2), 2);
    Checks.due("0 and 0", x.compare(2, 2), 1);
    Checks.due("compare(3, 0)", x.compare(3, 0), BAD_HANDLE);
    Checks.due("compare(0, -1)", x.compare(0, -1), BAD_HANDLE);
  }

  private static int symbol(long a, int prime) {
    long power = Checks.big(a).modPow(Checks.big((prime - 1) / 2), Checks.big(prime)).longValue();
    return power == prime - 1 ? -1 : (int) power;
  }

  private static void jacobi() {
    for (int m : new int[] {3, 5, 7, 9, 15, 21, 45, 1001}) {
      NumberArena x = Checks.arena(80, 8, 10, 10);
      Checks.set(x, 1, m);
      for (int a = 0; a < 60; a += m > 45 ? 7 : 1) {
        int due = 1;
        int left = m;
        for (int f = 3; f <= m; f += 2) {
          while (left % f == 0) {
            due *= symbol(a, f);
            left /= f;
          }
        }
        x.setLimb(0, 0, a);
        Checks.due("jacobi of " + a + " by " + m, x.jacobi(0, 1), due + 1);
      }
    }
    NumberArena x = Checks.arena(400, 8, 64, 64);
    BigInteger prime = Checks.power(2, 521).subtract(BigInteger.ONE);
    Checks.set(x, 1, prime);
    for (int a = 1; a < 8; a++) {
      BigInteger value = Checks.power(7, 300).add(Checks.big(a));
      BigInteger power = value.modPow(prime.shiftRight(1), prime);
      Checks.set(x, 0, value);
      Checks.due("by 2^521 - 1", x.jacobi(0, 1), power.equals(BigInteger.ONE) ? 2 : 0);
    }
    Checks.set(x, 1, 1);
    Checks.due("by 1", x.jacobi(0, 1), 2);
    Checks.set(x, 0, 0);
    Checks.due("0 by 1", x.jacobi(0, 1), 2);
    Checks.due("by 0", x.jacobi(1, 0), BAD_ARG);
    Checks.set(x, 0, 6);
    Checks.due("by 6", x.jacobi(1, 0), BAD_ARG);
    Checks.due("jacobi(2, 0)", x.jacobi(2, 0), BAD_HANDLE);
    Checks.due("jacobi(0, 2)", x.jacobi(0, 2), BAD_HANDLE);
  }

  private static void jacobiTakes() {
    NumberArena x = Checks.arena(16, 8, 6, 6);
    Checks.set(x, 0, Checks.power(2, 29));
    Checks.set(x, 1, Checks.power(2, 29).add(BigInteger.ONE));
    x.jacobi(0, 1);
    Checks.due("2 + 2 of 4", x.about(2), 0);
    Checks.due("they went", x.about(1), 12);
    Checks.set(x, 0, Checks.power(2, 30));
    Checks.due("3 + 2 of 4", x.jacobi(0, 1), NO_ROOM);
    Checks.due("one slide", x.about(2), 1);
    Checks.due("they went", x.about(1), 12);
    x.setLimb(1, 0, 2);
    Checks.due("BAD_ARG ahead of NO_ROOM", x.jacobi(0, 1), BAD_ARG);
    Checks.due("one slide", x.about(2), 1);
  }
}
