import java.math.BigInteger;
import java.util.function.Supplier;
import java.util.function.ToIntFunction;

/** What the tests share: counting wrong answers, and bringing numbers in and out of an arena. */
final class Checks {
  private static int wrong = 0;
  private static String sentence = "";

  private Checks() { }

  /** The sentence of the document that asks for the answers from here on. */
  static void says(String text) {
    sentence = "[" + text + "] ";
  }

  static void due(String call, long got, long want) {
    if (got != want) {
      wrong++;
      System.out.println(sentence + call + " answered " + got + ", due is " + want);
    }
  }

  static void due(String call, boolean got, boolean want) {
    due(call, got ? 1 : 0, want ? 1 : 0);
  }

  static void due(String call, Object got, Object want) {
    if (!want.equals(got)) {
      wrong++;
      System.out.println(sentence + call + " gave " + got + ", due is " + want);
    }
  }

  /** Ends the program, with exit code 1 if an answer was wrong. */
  static void finish() {
    System.out.println(wrong == 0 ? "all answers are as due" : wrong + " answers are not as due");
    if (wrong != 0) {
      System.exit(1);
    }
  }

  static BigInteger big(long value) {
    return BigInteger.valueOf(value);
  }

  static BigInteger power(long base, int exponent) {
    return big(base).pow(exponent);
  }

  /** Makes the tape the text alone. */
  static void tape(NumberArena x, String text) {
    due("end(0)", x.end(0), true);
    int fed = 0;
    for (int i = 0; i < text.length(); i += 20) {
      int[] parts = new int[5];
      for (int k = 0; k < 20; k++) {
        int c = i + k < text.length() ? text.charAt(i + k) : ' ';
        parts[k / 4] |= c << (24 - 8 * (k % 4));
      }
      fed += 20;
      due("feed", x.feed(parts[0], parts[1], parts[2], parts[3], parts[4]), fed);
    }
    due("end", x.end(text.length()), true);
  }

  static void set(NumberArena x, int h, BigInteger value) {
    tape(x, value.toString(36));
    due("number(" + h + ", 36)", x.number(h, 36), lengthOf(value));
  }

  static void set(NumberArena x, int h, long value) {
    set(x, h, big(value));
  }

  static BigInteger get(NumberArena x, int h) {
    BigInteger value = BigInteger.ZERO;
    for (int i = x.look(h, 0) - 1; i >= 0; i--) {
      value = value.shiftLeft(15).add(big(x.limb(h, i)));
    }
    return value;
  }

  static String out(NumberArena x, int count) {
    StringBuilder text = new StringBuilder();
    for (int i = 0; i < count; i++) {
      text.append((char) x.out(i));
    }
    return text.toString();
  }

  static int lengthOf(BigInteger value) {
    return (value.bitLength() + 14) / 15;
  }

  /** Live handles 0 .. rooms.length - 1 with these rooms. */
  static NumberArena arena(int cells, int words, int... rooms) {
    NumberArena x = new NumberArena(24, cells, words);
    for (int h = 0; h < rooms.length; h++) {
      due("alloc(" + rooms[h] + ")", x.alloc(rooms[h]), h);
    }
    return x;
  }

  static void words(NumberArena x, int... words) {
    x.clear();
    for (int i = 0; i < words.length; i++) {
      due("word(" + words[i] + ")", x.word(words[i]), i + 1);
    }
  }

  /**
   * All that can be seen of an arena without a change, but for how often runs were slid. It takes
   * a call for each cell, word and byte, and an object has 512: only for small ones.
   */
  static String picture(NumberArena x) {
    StringBuilder text = new StringBuilder("about");
    for (int what : new int[] {0, 1, 3, 4, 5, 6, 7, 8}) {
      text.append(' ').append(x.about(what));
    }
    int handles = Math.min(8, x.about(5));
    for (int h = 0; h < handles; h++) {
      text.append(", handle ").append(h).append(' ').append(x.look(h, 0));
      if (x.look(h, 0) >= 0) {
        text.append(' ').append(x.look(h, 1)).append(' ').append(x.look(h, 2));
      }
    }
    text.append(", cells");
    int end = x.about(1);
    for (int i = 0; i < end; i++) {
      text.append(' ').append(x.cell(i));
    }
    text.append(", words");
    int words = x.about(4);
    for (int i = 0; i <= words; i++) {
      text.append(' ').append(x.told(i));
    }
    text.append(", out");
    for (int i = 0, b = x.out(0); b >= 0; b = x.out(++i)) {
      text.append(' ').append(b);
    }
    return text.append(", fault ").append(x.fault()).toString();
  }

  /** The call answers that, and changes nothing; but runs are slid so often. */
  static void changesNothing(NumberArena x, String call, int code, int slides, ToIntFunction<NumberArena> act) {
    int slidBefore = x.about(2);
    String before = picture(x);
    due(call, act.applyAsInt(x), code);
    due(call + ", what there is then", picture(x), before);
    due(call + ", slides", x.about(2) - slidBefore, slides);
  }

  static void changesNothing(NumberArena x, String call, int code, ToIntFunction<NumberArena> act) {
    changesNothing(x, call, code, 0, act);
  }

  /** The same on an object of its own, as the pictures take a good part of an object's 512 calls. */
  static void changesNothing(Supplier<NumberArena> made, String call, int code, ToIntFunction<NumberArena> act) {
    changesNothing(made.get(), call, code, 0, act);
  }

  /** Handles 0, 1 .. with these numbers, each in a run just as long, and so many free cells. */
  static NumberArena withFree(int free, BigInteger... values) {
    return withGap(0, free, values);
  }

  /** Handles 1, 2 .. if there is a gap below the first run, else 0, 1 ..; free cells behind. */
  static NumberArena withGap(int gap, int free, BigInteger... values) {
    int used = gap + free;
    for (BigInteger value : values) {
      used += Math.max(1, lengthOf(value));
    }
    NumberArena x = new NumberArena(8, used, 60);
    int first = gap > 0 ? 1 : 0;
    if (gap > 0) {
      due("alloc of the gap", x.alloc(gap), 0);
    }
    for (int k = 0; k < values.length; k++) {
      due("alloc", x.alloc(Math.max(1, lengthOf(values[k]))), first + k);
      set(x, first + k, values[k]);
    }
    if (used < 16) {
      due("alloc of what a row must have", x.alloc(16 - used), first + values.length);
    }
    if (gap > 0) {
      due("release of the gap", x.release(0), 0);
    }
    return x;
  }
}
