import java.math.BigInteger;

/** Promises 20 to 25: the tape, numbers read from it, and digits written. */
public final class TapeTest {
  private static final int NONE = -1;
  private static final int BAD_HANDLE = -2;
  private static final int BAD_ARG = -3;
  private static final int NO_ROOM = -4;
  private static final int TOO_LONG = -8;

  public static void main(String[] args) {
    feed();
    end();
    number();
    numberOfOtherBytes();
    numberTooLong();
    numberTakes();
    fault();
    text();
    out();
    Checks.finish();
  }

  private static int ascii(String four) {
    return four.charAt(0) << 24 | four.charAt(1) << 16 | four.charAt(2) << 8 | four.charAt(3);
  }

  private static void feed() {
    NumberArena x = Checks.arena(100, 8, 20);
    int fed = x.feed(ascii("1234"), ascii("5678"), ascii("9012"), ascii("3456"), ascii("7890"));
    Checks.due("feed", fed, 20);
    Checks.due("number(0, 10)", x.number(0, 10), 5);
    Checks.due("in order", Checks.get(x, 0), new BigInteger("12345678901234567890"));
    for (int i = 1; i <= 50; i++) {
      Checks.due("feed", x.feed(1, 2, 3, 4, 5), 20 * i);
    }
    Checks.due("more than 1000", x.feed(1, 2, 3, 4, 5), NONE);
    Checks.due("nothing came", x.about(8), 1000);
    Checks.due("end(981)", x.end(981), true);
    Checks.due("1001", x.feed(1, 2, 3, 4, 5), NONE);
    Checks.due("end(980)", x.end(980), true);
    Checks.due("1000", x.feed(1, 2, 3, 4, 5), 1000);
  }

  private static void end() {
    NumberArena x = Checks.arena(100, 8, 20);
    Checks.due("end(0) of none", x.end(0), true);
    Checks.due("end(1) of none", x.end(1), false);
    x.feed(ascii("1234"), ascii("5678"), ascii("9012"), ascii("3456"), ascii("7890"));
    Checks.due("end(21)", x.end(21), false);
    Checks.due("end(-1)", x.end(-1), false);
    Checks.due("end(MIN)", x.end(Integer.MIN_VALUE), false);
    Checks.due("end(MAX)", x.end(Integer.MAX_VALUE), false);
    Checks.due("nothing changed", x.about(8), 20);
    Checks.due("end(20)", x.end(20), true);
    Checks.due("end(3)", x.end(3), true);
    Checks.due("3 bytes", x.about(8), 3);
    Checks.due("end(4)", x.end(4), false);
    Checks.due("feed behind them", x.feed(ascii("abcd"), 0, 0, 0, 0), 23);
    Checks.due("end(5)", x.end(5), true);
    Checks.due("number(0, 16)", x.number(0, 16), 2);
    Checks.due("123ab", Checks.get(x, 0), Checks.big(0x123ab));
  }

  private static void number() {
    for (int base = 2; base <= 36; base++) {
      NumberArena x = Checks.arena(200, 8, 64, 1);
      BigInteger value = Checks.power(2, 700).add(Checks.power(base, 100)).mod(Checks.power(2, 690));
      Checks.tape(x, "000" + value.toString(base));
      Checks.due("number(0, " + base + ")", x.number(0, base), Checks.lengthOf(value));
      Checks.due("base " + base, Checks.get(x, 0), value);
    }
    NumberArena x = Checks.arena(200, 8, 64, 1);
    Checks.tape(x, "000");
    Checks.due("zeros", x.number(0, 2), 0);
    Checks.due("0", x.look(0, 0), 0);
    Checks.tape(x, "12");
    for (int base : new int[] {1, 0, -1, 37, Integer.MAX_VALUE, Integer.MIN_VALUE}) {
      Checks.due("number(0, " + base + ")", x.number(0, base), BAD_ARG);
      Checks.due("number(2, " + base + ")", x.number(2, base), BAD_HANDLE);
    }
    Checks.due("the tape is there", x.about(8), 2);
    Checks.due("number(0, 3)", x.number(0, 3), 1);
    Checks.due("5", x.limb(0, 0), 5);
    Checks.due("the tape is empty", x.about(8), 0);
  }

  // Every byte is a digit in the base above its value, and in none below.
  private static void numberOfOtherBytes() {
    String order = "0123456789abcdefghijklmnopqrstuvwxyz";
    NumberArena x = Checks.arena(20, 8, 1);
    for (int c = 0; c < 256; c++) {
      if (c % 64 == 0) {
        x = Checks.arena(20, 8, 1);
      }
      int digit = order.indexOf(c);
      x.feed(c << 24, 0, 0, 0, 0);
      x.end(1);
      Checks.due("byte " + c, x.number(0, 36), digit < 0 ? NONE : digit == 0 ? 0 : 1);
      Checks.due("byte " + c, x.fault(), digit < 0 ? 0 : NONE);
      if (digit >= 0) {
        Checks.due("byte " + c, x.limb(0, 0), digit);
      }
    }
    for (int base = 2; base < 36; base++) {
      Checks.tape(x = Checks.arena(20, 8, 2), "0" + order.charAt(base));
      Checks.due("digit " + base + " in its base", x.number(0, base), NONE);
      Checks.tape(x, "1" + order.charAt(base - 1));
      Checks.due("highest digit", x.number(0, base), 1);
      Checks.due("highest digit", x.limb(0, 0), 2 * base - 1);
    }
  }

  private static void numberTooLong() {
    NumberArena x = Checks.arena(200, 8, 64, 1);
    BigInteger least = Checks.power(2, 960);
    Checks.tape(x, least.subtract(BigInteger.ONE).toString(2));
    Checks.due("2^960 - 1", x.number(0, 2), 64);
    Checks.tape(x, least.toString(2));
    Checks.due("2^960", x.number(0, 2), TOO_LONG);
    Checks.due("the tape is empty", x.about(8), 0);
    Checks.due("as it was", x.look(0, 3), 960);
    Checks.due("no fault", x.fault(), NONE);
    Checks.tape(x, "z".repeat(1000));
    Checks.due("1000 digits", x.number(1, 36), TOO_LONG);
    Checks.tape(x, "z".repeat(999) + "!");
    Checks.due("NONE ahead of TOO_LONG", x.number(1, 36), NONE);
    Checks.due("at the last byte", x.fault(), 999);
    Checks.tape(x, "0".repeat(999) + "7");
    Checks.due("999 zeros", x.number(1, 10), 1);
  }

  private static void numberTakes() {
    NumberArena x = Checks.arena(16, 8, 1, 12);
    Checks.set(x, 0, 7);
    Checks.tape(x, "1" + "0".repeat(45));
    Checks.due("4 cells, 3 are free", x.number(0, 2), NO_ROOM);
    Checks.due("the tape is empty", x.about(8), 0);
    Checks.due("slid", x.about(2), 1);
    Checks.due("as it was", x.limb(0, 0), 7);
    Checks.due("no fault", x.fault(), NONE);
    Checks.tape(x, "1" + "0".repeat(44));
    Checks.due("3 cells", x.number(0, 2), 3);
    Checks.due("place", x.look(0, 2), 13);
    Checks.tape(x, "1");
    Checks.due("1 of 3 cells", x.number(0, 2), 1);
    Checks.due("the run stays", x.look(0, 1), 3);
    Checks.due("0 above it", x.cell(15), 0);
  }

  private static void fault() {
    NumberArena x = Checks.arena(16, 8, 3);
    Checks.due("before any number()", x.fault(), NONE);
    Checks.due("an empty tape", x.number(0, 10), NONE);
    Checks.due("its length", x.fault(), 0);
    Checks.tape(x, "12x4y");
    Checks.due("12x4y", x.number(0, 10), NONE);
    Checks.due("the first one", x.fault(), 2);
    Checks.due("still", x.fault(), 2);
    Checks.due("the tape is empty", x.about(8), 0);
    Checks.tape(x, "A");
    Checks.due("other calls between", x.fault(), 2);
    Checks.due("a great letter", x.number(0, 36), NONE);
    Checks.due("at 0", x.fault(), 0);
    Checks.tape(x, "12");
    Checks.due("12", x.number(0, 10), 1);
    Checks.due("the latest was right", x.fault(), NONE);
    Checks.due("an empty tape", x.number(0, 10), NONE);
    Checks.due("the latest answered BAD_ARG", x.number(0, 1), BAD_ARG);
    Checks.due("fault", x.fault(), NONE);
    Checks.due("an empty tape", x.number(0, 10), NONE);
    Checks.due("the latest answered BAD_HANDLE", x.number(1, 1), BAD_HANDLE);
    Checks.due("fault", x.fault(), NONE);
  }

  private static void text() {
    NumberArena x = Checks.arena(200, 8, 64, 1);
    BigInteger value = Checks.power(2, 960).subtract(Checks.power(3, 333));
    Checks.set(x, 0, value);
    for (int base : new int[] {2, 3, 7, 10, 16, 32, 35, 36}) {
      int count = x.text(0, base);
      Checks.due("text(0, " + base + ")", count, value.toString(base).length());
    }
    Checks.due("base 36", Checks.out(x, 186), value.toString(36));
    Checks.due("of 0", x.text(1, 10), 1);
    Checks.due("0", x.out(0), '0');
    Checks.due("0 alone", x.out(1), NONE);
    for (int base : new int[] {1, 0, -1, 37, Integer.MAX_VALUE, Integer.MIN_VALUE}) {
      Checks.due("text(0, " + base + ")", x.text(0, base), BAD_ARG);
      Checks.due("text(2, " + base + ")", x.text(2, base), BAD_HANDLE);
    }
    Checks.due("OUT is as it was", x.out(0), '0');
    Checks.due("OUT is as it was", x.out(1), NONE);
    Checks.due("the number is as it was", Checks.get(x, 0), value);
  }

  private static void out() {
    NumberArena x = Checks.arena(200, 8, 64, 1);
    BigInteger value = Checks.power(2, 960).subtract(BigInteger.ONE);
    Checks.set(x, 0, value);
    int count = x.text(0, 10);
    Checks.due("base 10", Checks.out(x, count), value.toString(10));
    Checks.due("behind it", x.out(count), NONE);
    Checks.due("out(-1)", x.out(-1), NONE);
    Checks.due("out(MAX)", x.out(Integer.MAX_VALUE), NONE);
    Checks.due("out(MIN)", x.out(Integer.MIN_VALUE), NONE);
    Checks.due("base 2", x.text(0, 2), 960);
    Checks.due("out(959)", x.out(959), '1');
    Checks.due("out(960)", x.out(960), NONE);
    x.release(0);
    Checks.due("OUT stays", x.out(959), '1');
    Checks.set(x, 1, 35);
    Checks.due("shorter", x.text(1, 36), 1);
    Checks.due("z", x.out(0), 'z');
    Checks.due("z alone", x.out(1), NONE);
  }
}
