import java.math.BigInteger;

/** What the tests share: counting wrong answers, and bringing numbers in and out of an arena. */
final class Checks {
  private static int wrong = 0;

  private Checks() { }

  static void due(String call, long got, long want) {
    if (got != want) {
      wrong++;
      System.out.println(call + " answered " + got + ", due is " + want);
    }
  }

  static void due(String call, boolean got, boolean want) {
    due(call, got ? 1 : 0, want ? 1 : 0);
  }

  static void due(String call, Object got, Object want) {
    if (!want.equals(got)) {
      wrong++;
      System.out.println(call + " gave " + got + ", due is " + want);
    }
  }

  /** Ends the program, with exit code 1 if an answer was wrong. */
  static void finish() {
    System.out.println(wrong == 0 ? "all answers are as due" : wrong + " answers are not as due");
    if (wrong != 0) {
      System.exit(1);
    }
  }

  static BigInteger big(long value) {
    return BigInteger.valueOf(value);
  }

  static BigInteger power(long base, int exponent) {
    return big(base).pow(exponent);
  }

  /** Makes the tape the text alone. */
  static void tape(NumberArena x, String text) {
    due("end(0)", x.end(0), true);
    int fed = 0;
    for (int i = 0; i < text.length(); i += 20) {
      int[] parts = new int[5];
      for (int k = 0; k < 20; k++) {
        int c = i + k < text.length() ? text.charAt(i + k) : ' ';
        parts[k / 4] |= c << (24 - 8 * (k % 4));
      }
      fed += 20;
      due("feed", x.feed(parts[0], parts[1], parts[2], parts[3], parts[4]), fed);
    }
    due("end", x.end(text.length()), true);
  }

  static void set(NumberArena x, int h, BigInteger value) {
    tape(x, value.toString(36));
    due("number(" + h + ", 36)", x.number(h, 36), lengthOf(value));
  }

  static void set(NumberArena x, int h, long value) {
    set(x, h, big(value));
  }

  static BigInteger get(NumberArena x, int h) {
    BigInteger value = BigInteger.ZERO;
    for (int i = x.look(h, 0) - 1; i >= 0; i--) {
      value = value.shiftLeft(15).add(big(x.limb(h, i)));
    }
    return value;
  }

  static String out(NumberArena x, int count) {
    StringBuilder text = new StringBuilder();
    for (int i = 0; i < count; i++) {
      text.append((char) x.out(i));
    }
    return text.toString();
  }

  static int lengthOf(BigInteger value) {
    return (value.bitLength() + 14) / 15;
  }

  /** Live handles 0 .. rooms.length - 1 with these rooms. */
  static NumberArena arena(int cells, int words, int... rooms) {
    NumberArena x = new NumberArena(24, cells, words);
    for (int h = 0; h < rooms.length; h++) {
      due("alloc(" + rooms[h] + ")", x.alloc(rooms[h]), h);
    }
    return x;
  }

  static void words(NumberArena x, int... words) {
    x.clear();
    for (int i = 0; i < words.length; i++) {
      due("word(" + words[i] + ")", x.word(words[i]), i + 1);
    }
  }
}
