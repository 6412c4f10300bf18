import java.math.BigInteger;
import java.util.function.Supplier;

/** The boundary cases that promises 20 to 25 name, a test for each. */
public final class TapeBoundaryTest {
  private static final int NONE = -1;
  private static final int BAD_HANDLE = -2;
  private static final int BAD_ARG = -3;
  private static final int NO_ROOM = -4;
  private static final int TOO_LONG = -8;
  private static final int MIN = Integer.MIN_VALUE;
  private static final int MAX = Integer.MAX_VALUE;
  private static final int[] BAD_BASES = {MIN, -36, -1, 0, 1, 37, 38, MAX};
  private static final String DIGITS = "0123456789abcdefghijklmnopqrstuvwxyz";
  private static final BigInteger HIGHEST = Checks.power(2, 960).subtract(BigInteger.ONE);

  public static void main(String[] args) {
    feed();
    end();
    numberEmptiesTheTape();
    numberOfNoSuchDigit();
    numberOfABadBase();
    numberTooLong();
    numberNoRoom();
    numberBadHandle();
    numberOfZeros();
    fault();
    faultOfALaterNumber();
    text();
    textRefused();
    out();
    Checks.finish();
  }

  private static void feed() {
    Checks.says("Promise 20: NONE, and nothing comes, if there would be more than 1000");
    NumberArena x = Checks.arena(16, 8, 1);
    for (int i = 1; i <= 50; i++) {
      Checks.due("feed", x.feed(0x30303030, 0x30303030, 0x30303030, 0x30303030, 0x30303030), 20 * i);
    }
    Checks.changesNothing(x, "20 behind 1000", NONE, a -> a.feed(1, 2, 3, 4, 5));
    x.end(981);
    Checks.changesNothing(x, "20 behind 981", NONE, a -> a.feed(1, 2, 3, 4, 5));
    Checks.due("the 981 are all there, and digits", x.number(0, 2), 0);
    for (int i = 1; i <= 49; i++) {
      x.feed(0x30303030, 0x30303030, 0x30303030, 0x30303030, 0x30303030);
    }
    Checks.due("20 behind 980", x.feed(0x30303030, 0x30303030, 0x30303030, 0x30303030, 0x30303031), 1000);
    Checks.due("the last one, too", x.number(0, 2), 1);
    Checks.due("1", x.limb(0, 0), 1);
    Checks.says("Promise 20: twenty bytes, of each number the highest first");
    NumberArena y = Checks.arena(16, 8, 7);
    Checks.due("feed", y.feed(0x31323334, 0x35363738, 0x39306162, 0x63646566, 0x67683031), 20);
    Checks.due("number(0, 18)", y.number(0, 18), Checks.lengthOf(new BigInteger("1234567890abcdefgh01", 18)));
    Checks.due("all of them", Checks.get(y, 0), new BigInteger("1234567890abcdefgh01", 18));
    Checks.due("bytes above 127", y.feed(0x31FFFFFF, MIN, -1, MAX, 0x80808080), 20);
    Checks.due("are no digits", y.number(0, 36), NONE);
    Checks.due("the first of them", y.fault(), 1);
  }

  private static void end() {
    Checks.says("Promise 21: false, changing nothing, if it has not so many, or n is below 0");
    NumberArena x = Checks.arena(16, 8, 1);
    Checks.changesNothing(x, "end(1) of none", 0, a -> a.end(1) ? 1 : 0);
    Checks.changesNothing(x, "end(0) of none", 1, a -> a.end(0) ? 1 : 0);
    Checks.changesNothing(x, "end(-1) of none", 0, a -> a.end(-1) ? 1 : 0);
    for (int n : new int[] {MIN, -1, 20, 21, 1000, 1001, MAX}) {
      NumberArena y = Checks.arena(16, 8, 1);
      y.feed(0x31313131, 0, 0, 0, 0);
      Checks.changesNothing(y, "end(" + n + ") of 20", n == 20 ? 1 : 0, a -> a.end(n) ? 1 : 0);
    }
    Checks.says("Promise 21: the TAPE has its first n bytes alone");
    x.feed(0x31313131, 0, 0, 0, 0);
    Checks.due("end(19)", x.end(19), true);
    Checks.due("19", x.about(8), 19);
    Checks.due("end(20) of 19", x.end(20), false);
    Checks.due("end(4)", x.end(4), true);
    Checks.due("the first four", x.number(0, 2), 1);
    Checks.due("15", x.limb(0, 0), 15);
    x.feed(0x31313131, 0, 0, 0, 0);
    Checks.due("end(0)", x.end(0), true);
    Checks.due("none", x.about(8), 0);
  }

  private static void numberEmptiesTheTape() {
    Checks.says("Promise 22: the TAPE, empty then but for BAD_HANDLE and BAD_ARG");
    NumberArena x = Checks.arena(16, 8, 1, 14);
    Checks.tape(x, "7");
    Checks.changesNothing(x, "BAD_HANDLE", BAD_HANDLE, a -> a.number(2, 10));
    Checks.changesNothing(x, "BAD_ARG", BAD_ARG, a -> a.number(0, 1));
    Checks.due("the tape is there", x.number(0, 10), 1);
    Checks.due("empty behind a number", x.about(8), 0);
    Checks.tape(x, "7x");
    Checks.due("NONE", x.number(0, 10), NONE);
    Checks.due("empty behind NONE", x.about(8), 0);
    Checks.tape(x, "z".repeat(200));
    Checks.due("TOO_LONG", x.number(0, 36), TOO_LONG);
    Checks.due("empty behind TOO_LONG", x.about(8), 0);
    Checks.tape(x, "zzzzz");
    Checks.due("NO_ROOM", x.number(0, 36), NO_ROOM);
    Checks.due("empty behind NO_ROOM", x.about(8), 0);
    Checks.due("7 as it was", x.limb(0, 0), 7);
    Checks.due("nothing is left to be read", x.number(0, 36), NONE);
  }

  private static void numberOfNoSuchDigit() {
    Checks.says("Promise 22: digits of a base (0 .. 9, then a .. z)");
    for (int base = 2; base <= 36; base++) {
      NumberArena x = Checks.arena(16, 8, 2);
      Checks.tape(x, "1" + DIGITS.charAt(base - 1));
      Checks.due("the highest digit of base " + base, x.number(0, base), 1);
      Checks.due("the highest digit of base " + base, x.limb(0, 0), 2 * base - 1);
      Checks.tape(x, "1" + (base < 36 ? DIGITS.charAt(base) : '{'));
      Checks.due("NONE: one above it", x.number(0, base), NONE);
      Checks.due("its place", x.fault(), 1);
      Checks.due("the number as it was", x.limb(0, 0), 2 * base - 1);
    }
    Checks.says("Promise 22: NONE: a byte is no such digit");
    String others = "/:`{AZ@[ -+.\u0000\u007f\u0080\u00b0\u00ff";
    for (int k = 0; k < others.length(); k++) {
      NumberArena x = Checks.arena(16, 8, 2);
      Checks.tape(x, "0" + others.charAt(k) + "0");
      Checks.due("byte " + (int) others.charAt(k), x.number(0, 36), NONE);
      Checks.due("byte " + (int) others.charAt(k), x.fault(), 1);
    }
    Checks.says("Promise 22: NONE: or there is none (one at least)");
    NumberArena y = Checks.arena(16, 8, 2);
    y.setLimb(0, 0, 9);
    Checks.due("an empty tape", y.number(0, 10), NONE);
    Checks.due("the number as it was", y.limb(0, 0), 9);
  }

  private static void numberOfABadBase() {
    Checks.says("Promise 22: BAD_ARG: base is not 2 .. 36");
    for (int base : BAD_BASES) {
      NumberArena y = Checks.arena(16, 8, 2);
      Checks.tape(y, "0");
      Checks.changesNothing(y, "base " + base, BAD_ARG, a -> a.number(0, base));
    }
    NumberArena x = Checks.arena(16, 8, 2);
    Checks.tape(x, "1");
    Checks.due("base 2", x.number(0, 2), 1);
    Checks.tape(x, "z");
    Checks.due("base 36", x.number(0, 36), 1);
    Checks.says("Promise 22: BAD_ARG ahead of NONE");
    Checks.due("base 1 of an empty tape", x.number(0, 1), BAD_ARG);
    Checks.due("fault()", x.fault(), NONE);
  }

  private static void numberTooLong() {
    Checks.says("Promise 22: TOO_LONG");
    for (int base : new int[] {2, 8, 10, 36}) {
      NumberArena x = Checks.arena(140, 8, 64, 1);
      Checks.tape(x, HIGHEST.toString(base));
      Checks.due("2^960 - 1 in base " + base, x.number(0, base), 64);
      Checks.due("2^960 - 1 in base " + base, Checks.get(x, 0), HIGHEST);
      Checks.tape(x, HIGHEST.add(BigInteger.ONE).toString(base));
      Checks.due("2^960 in base " + base, x.number(0, base), TOO_LONG);
      Checks.due("as it was", Checks.get(x, 0), HIGHEST);
    }
    NumberArena x = Checks.arena(16, 8, 16);
    Checks.tape(x, "z".repeat(1000));
    Checks.due("TOO_LONG ahead of NO_ROOM", x.number(0, 36), TOO_LONG);
    Checks.due("no slide", x.about(2), 0);
    Checks.due("fault()", x.fault(), NONE);
    Checks.tape(x, "z".repeat(999) + "Z");
    Checks.due("NONE ahead of TOO_LONG", x.number(0, 36), NONE);
    Checks.due("at the last byte", x.fault(), 999);
  }

  private static void numberNoRoom() {
    Checks.says("Promise 22: NO_ROOM");
    NumberArena x = Checks.arena(16, 8, 1, 12);
    x.setLimb(0, 0, 7);
    Checks.tape(x, "1" + "0".repeat(45));
    Checks.due("4 of 3 cells", x.number(0, 2), NO_ROOM);
    Checks.due("slides", x.about(2), 1);
    Checks.due("as it was", x.limb(0, 0), 7);
    Checks.due("its room", x.look(0, 1), 1);
    Checks.due("fault()", x.fault(), NONE);
    Checks.tape(x, "1".repeat(45));
    Checks.due("3 of 3 cells", x.number(0, 2), 3);
    Checks.due("place", x.look(0, 2), 13);
    Checks.due("slides", x.about(2), 1);
    NumberArena y = Checks.arena(16, 8, 2, 14);
    Checks.tape(y, "1".repeat(30));
    Checks.due("2 limbs in a room of 2, no cell being free", y.number(0, 2), 2);
    Checks.due("slides", y.about(2), 0);
  }

  private static void numberBadHandle() {
    Checks.says("Promise 22: BAD_HANDLE");
    for (int h : new int[] {MIN, -1, 1, 24, MAX}) {
      NumberArena x = Checks.arena(16, 8, 1);
      Checks.tape(x, "1x");
      Checks.changesNothing(x, "number(" + h + ", 10)", BAD_HANDLE, a -> a.number(h, 10));
      Checks.changesNothing(x, "number(" + h + ", 0)", BAD_HANDLE, a -> a.number(h, 0));
    }
  }

  private static void numberOfZeros() {
    Checks.says("Promise 22: its LENGTH");
    NumberArena x = Checks.arena(16, 8, 2, 14);
    Checks.tape(x, "0");
    Checks.due("0", x.number(0, 10), 0);
    Checks.tape(x, "0".repeat(1000));
    Checks.due("1000 zeros", x.number(0, 10), 0);
    Checks.due("none", x.look(0, 0), 0);
    Checks.tape(x, "0".repeat(990) + "1073741823");
    Checks.due("2^30 - 1 behind zeros", x.number(0, 10), 2);
    Checks.due("bits", x.look(0, 3), 30);
    Checks.tape(x, "5");
    Checks.due("5 where 2 limbs were", x.number(0, 10), 1);
    Checks.due("0 above it", x.cell(1), 0);
    Checks.due("its room", x.look(0, 1), 2);
  }

  private static void fault() {
    Checks.says("Promise 23: the place of the first byte that was no digit");
    for (int at : new int[] {0, 1, 19, 20, 21, 999}) {
      NumberArena x = Checks.arena(16, 8, 2);
      Checks.tape(x, "0".repeat(at) + "!".repeat(Math.min(3, 1000 - at)));
      Checks.due("number", x.number(0, 10), NONE);
      Checks.due("fault() at " + at, x.fault(), at);
      Checks.due("and once more", x.fault(), at);
    }
    Checks.says("Promise 23: (the TAPE's length without any)");
    NumberArena x = Checks.arena(16, 8, 2);
    Checks.due("an empty tape", x.number(0, 10), NONE);
    Checks.due("fault()", x.fault(), 0);
    Checks.says("Promise 23: else NONE");
    NumberArena y = Checks.arena(16, 8, 2);
    Checks.due("without any number()", y.fault(), NONE);
    Checks.tape(y, "12");
    Checks.due("number", y.number(0, 10), 1);
    Checks.due("fault()", y.fault(), NONE);
  }

  private static NumberArena withFault() {
    NumberArena x = Checks.arena(16, 8, 2, 12);
    Checks.tape(x, "12!");
    Checks.due("number", x.number(0, 10), NONE);
    Checks.due("fault()", x.fault(), 2);
    return x;
  }

  private static void faultOfALaterNumber() {
    Checks.says("Promise 23: if the latest number() answered NONE; else NONE");
    NumberArena x = withFault();
    Checks.due("a bad handle", x.number(5, 10), BAD_HANDLE);
    Checks.due("fault()", x.fault(), NONE);
    x = withFault();
    Checks.due("a bad base", x.number(0, 0), BAD_ARG);
    Checks.due("fault()", x.fault(), NONE);
    x = withFault();
    Checks.tape(x, "1");
    Checks.due("a number", x.number(0, 10), 1);
    Checks.due("fault()", x.fault(), NONE);
    x = withFault();
    Checks.tape(x, "1".repeat(961));
    Checks.due("a long one", x.number(0, 10), TOO_LONG);
    Checks.due("fault()", x.fault(), NONE);
    x = withFault();
    Checks.tape(x, "1".repeat(46));
    Checks.due("one without room", x.number(0, 2), NO_ROOM);
    Checks.due("fault()", x.fault(), NONE);
    x = withFault();
    Checks.due("other calls are no matter", x.text(0, 10), 1);
    x.end(0);
    x.alloc(99);
    Checks.due("fault()", x.fault(), 2);
  }

  private static void text() {
    Checks.says("Promise 24: OUT is a's digits in a base (0 of 0): how many");
    for (int base = 2; base <= 36; base++) {
      NumberArena x = Checks.arena(80, 8, 64);
      Checks.due("0 in base " + base, x.text(0, base), 1);
      Checks.due("0 in base " + base, x.out(0), '0');
      Checks.due("0 in base " + base, x.out(1), NONE);
      x.setLimb(0, 0, base - 1);
      Checks.due("the highest digit of base " + base, x.text(0, base), 1);
      Checks.due("the highest digit of base " + base, x.out(0), DIGITS.charAt(base - 1));
      x.setLimb(0, 0, base);
      Checks.due("base " + base + " in itself", x.text(0, base), 2);
      Checks.due("base " + base + " in itself", Checks.out(x, 2), "10");
      Checks.set(x, 0, HIGHEST);
      String due = HIGHEST.toString(base);
      Checks.due("2^960 - 1 in base " + base, x.text(0, base), due.length());
      int told = Math.min(300, due.length());
      Checks.due("2^960 - 1 in base " + base, Checks.out(x, told), due.substring(0, told));
      Checks.due("its last digit", x.out(due.length() - 1), due.charAt(due.length() - 1));
      Checks.due("behind it", x.out(due.length()), NONE);
    }
  }

  private static void textRefused() {
    Checks.says("Promise 24: BAD_ARG: base is not 2 .. 36");
    Supplier<NumberArena> written = () -> {
      NumberArena made = Checks.arena(16, 8, 2);
      made.setLimb(0, 0, 1234);
      Checks.due("text", made.text(0, 10), 4);
      made.setLimb(0, 0, 7);
      return made;
    };
    for (int base : BAD_BASES) {
      Checks.changesNothing(written, "base " + base, BAD_ARG, a -> a.text(0, base));
    }
    Checks.says("Promise 24: BAD_HANDLE");
    for (int h : new int[] {MIN, -1, 1, 24, MAX}) {
      Checks.changesNothing(written, "text(" + h + ", 10)", BAD_HANDLE, a -> a.text(h, 10));
      Checks.changesNothing(written, "text(" + h + ", 37)", BAD_HANDLE, a -> a.text(h, 37));
    }
  }

  private static void out() {
    Checks.says("Promise 25: byte i of OUT; NONE if there is none");
    NumberArena x = Checks.arena(80, 8, 64, 1);
    for (int i : new int[] {MIN, -1, 0, 1, MAX}) {
      Checks.due("out(" + i + ") ahead of any text()", x.out(i), NONE);
    }
    x.setLimb(1, 0, 1023);
    x.text(1, 10);
    Checks.due("1023", Checks.out(x, 4), "1023");
    for (int i : new int[] {MIN, -1, 4, 5, 960, MAX}) {
      Checks.due("out(" + i + ")", x.out(i), NONE);
    }
    x.setLimb(0, 63, 16384);
    Checks.due("2^959", x.text(0, 2), 960);
    Checks.due("its first byte", x.out(0), '1');
    Checks.due("its last byte", x.out(959), '0');
    Checks.due("behind it", x.out(960), NONE);
    Checks.due("a look at the longer one", x.compare(0, 0), 1);
    Checks.due("fewer again", x.text(1, 2), 10);
    Checks.due("the last one", x.out(9), '1');
    Checks.due("behind it", x.out(10), NONE);
    x.release(1);
    Checks.due("OUT stays as a goes", x.out(9), '1');
  }
}
