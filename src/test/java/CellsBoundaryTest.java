import java.math.BigInteger;
import java.util.function.Supplier;

/** The boundary cases that the document's terms and promises 1 to 9 name, a test for each. */
public final class CellsBoundaryTest {
  private static final int NONE = -1;
  private static final int BAD_HANDLE = -2;
  private static final int BAD_ARG = -3;
  private static final int NO_ROOM = -4;
  private static final int NEGATIVE = -5;
  private static final int ZERO = -6;
  private static final int ALIAS = -7;
  private static final int TOO_LONG = -8;
  private static final int FULL = -9;
  private static final int MIN = Integer.MIN_VALUE;
  private static final int MAX = Integer.MAX_VALUE;
  private static final BigInteger HIGHEST = Checks.power(2, 960).subtract(BigInteger.ONE);

  public static void main(String[] args) {
    numbers();
    takes();
    slides();
    comes();
    codes();
    newObject();
    alloc();
    release();
    resize();
    setLimb();
    limb();
    look();
    about();
    cell();
    Checks.finish();
  }

  private static BigInteger limbs(int n) {
    return Checks.power(2, 15 * n).subtract(BigInteger.ONE);
  }

  private static void numbers() {
    limbsAreFifteenBits();
    lengthIsUpToTheHighestLimbThatIsNot0();
    handlesAreBelowH();
    runsLieAmongTheCells();
    aCellHasTheLimbOfItsRun();
  }

  private static void limbsAreFifteenBits() {
    Checks.says("Terms: LIMBS are 0 .. 32767");
    NumberArena x = Checks.arena(20, 8, 2, 2, 2);
    Checks.due("setLimb(0, 0, 32767)", x.setLimb(0, 0, 32767), 1);
    Checks.due("setLimb(1, 0, 1)", x.setLimb(1, 0, 1), 1);
    Checks.due("32767 + 1", x.add(2, 0, 1), 2);
    Checks.due("its limb 0", x.limb(2, 0), 0);
    Checks.due("its limb 1", x.limb(2, 1), 1);
    Checks.due("32768 - 1", x.sub(2, 2, 1), 1);
    Checks.due("its limb 0", x.limb(2, 0), 32767);
    Checks.due("its limb 1", x.limb(2, 1), 0);
  }

  private static void lengthIsUpToTheHighestLimbThatIsNot0() {
    Checks.says("Terms: LENGTH: up to the highest limb that is not 0 (0 of 0)");
    NumberArena x = Checks.arena(80, 8, 64, 1);
    Checks.due("of a new one", x.look(0, 0), 0);
    Checks.due("limb 63 alone", x.setLimb(0, 63, 1), 64);
    Checks.due("look", x.look(0, 0), 64);
    x.setLimb(0, 0, 1);
    Checks.due("limb 0 alone", x.setLimb(0, 63, 0), 1);
    Checks.due("none", x.setLimb(0, 0, 0), 0);
    Checks.due("look", x.look(0, 0), 0);
  }

  private static void handlesAreBelowH() {
    Checks.says("Terms: HANDLES 0 .. H - 1, at first all are free");
    NumberArena x = new NumberArena(2, 16, 8);
    for (int h : new int[] {0, 1, 2, -1}) {
      Checks.due("look(" + h + ", 0)", x.look(h, 0), BAD_HANDLE);
    }
    Checks.due("alloc", x.alloc(1), 0);
    Checks.due("alloc", x.alloc(1), 1);
    Checks.due("alloc", x.alloc(1), FULL);
    Checks.due("look(1, 0)", x.look(1, 0), 0);
    Checks.due("look(2, 0)", x.look(2, 0), BAD_HANDLE);
  }

  private static void runsLieAmongTheCells() {
    Checks.says("Terms: a RUN of 1 .. 64 cells among the cells 0 .. C - 1");
    NumberArena x = Checks.arena(65, 8, 64, 1);
    Checks.due("up to the last cell", x.about(1), 65);
    Checks.due("limb 63", x.setLimb(0, 63, 5), 64);
    Checks.due("limb 0", x.setLimb(1, 0, 6), 1);
    Checks.due("cell(63)", x.cell(63), 5);
    Checks.due("the last cell", x.cell(64), 6);
    Checks.due("behind it", x.cell(65), NONE);
    Checks.due("slides", x.about(2), 0);
    Checks.due("not one more", x.alloc(1), NO_ROOM);
  }

  private static void aCellHasTheLimbOfItsRun() {
    Checks.says("Terms: cell PLACE + i has limb i");
    NumberArena x = Checks.arena(16, 8, 3, 2);
    for (int i = 0; i < 5; i++) {
      x.setLimb(i / 3, i % 3, 100 + i);
    }
    for (int i = 0; i < 5; i++) {
      Checks.due("cell(" + i + ")", x.cell(i), 100 + i);
    }
    x.release(0);
    Checks.due("slid", x.alloc(14), 0);
    Checks.due("cell(0)", x.cell(0), 103);
    Checks.due("cell(1)", x.cell(1), 104);
    Checks.due("cell(2), 0 though it had a limb", x.cell(2), 0);
  }

  private static void takes() {
    ofNoCellsTakesNothing();
    withoutRunsFromCell0();
    behindTheHighestRun();
    behindWhatTheCallHasTaken();
    thatJustFitsSlidesNothing();
    ofOneCellTooManySlides();
    whatWasTakenGoes();
    whatWasTakenGoesFromARefusedCall();
  }

  private static void ofNoCellsTakesNothing() {
    Checks.says("Terms: to TAKE n cells (nothing, if n is 0)");
    NumberArena x = Checks.arena(16, 8, 16);
    Checks.due("0 by 0 in a full row", x.mul(0, 0, 0), 0);
    Checks.due("gcd of 0 and 0 in a full row", x.gcd(0, 0, 0), 0);
    Checks.due("0 shifted in a full row", x.shift(0, 0, 960), 0);
    Checks.due("slides", x.about(2), 0);
    NumberArena y = Checks.withFree(3, BigInteger.ZERO, limbs(2));
    Checks.due("0 by 2 limbs: 1, then 2, and none of 0 - 2 + 1", y.divmod(NONE, NONE, 0, 1), 0);
    Checks.due("slides", y.about(2), 0);
    NumberArena z = Checks.withFree(4, limbs(1), limbs(2));
    Checks.due("1 limb by 2: 2, then 2, and none of 1 - 2 + 1", z.divmod(NONE, NONE, 0, 1), 0);
    Checks.due("slides", z.about(2), 0);
    NumberArena w = Checks.withFree(1, BigInteger.ZERO, BigInteger.ONE);
    Checks.due("0 by 1: none, then 1", w.jacobi(0, 1), 2);
    Checks.due("slides", w.about(2), 0);
  }

  private static void withoutRunsFromCell0() {
    Checks.says("Terms: TAKE: 0 without any");
    NumberArena x = new NumberArena(4, 16, 8);
    Checks.due("alloc(16)", x.alloc(16), 0);
    Checks.due("its place", x.look(0, 2), 0);
    x.release(0);
    Checks.due("alloc(16) of an empty row", x.alloc(16), 0);
    Checks.due("its place", x.look(0, 2), 0);
    Checks.due("slides", x.about(2), 0);
  }

  private static void behindTheHighestRun() {
    Checks.says("Terms: TAKE: they begin behind the highest RUN that there is");
    NumberArena x = Checks.arena(30, 8, 4, 5, 6);
    x.release(0);
    Checks.due("alloc(1) over a gap of 4", x.alloc(1), 0);
    Checks.due("its place", x.look(0, 2), 15);
    x.release(0);
    x.release(2);
    Checks.due("alloc(1) behind a run that is the highest now", x.alloc(1), 0);
    Checks.due("its place", x.look(0, 2), 9);
    Checks.due("slides", x.about(2), 0);
  }

  private static void behindWhatTheCallHasTaken() {
    Checks.says("Terms: TAKE: behind the highest RUN (those taken in this call, too)");
    NumberArena x = Checks.withFree(8, limbs(2), BigInteger.ZERO);
    Checks.due("2 limbs by 2: 4, then 4 for the product", x.mul(1, 0, 0), 4);
    Checks.due("place", x.look(1, 2), x.about(1) - 4);
    Checks.due("the end of the row", x.about(1), x.about(6));
  }

  private static void thatJustFitsSlidesNothing() {
    Checks.says("Terms: TAKE: if they do not all lie among the cells then");
    NumberArena x = Checks.withGap(5, 6, limbs(5));
    Checks.due("6 cells over a gap, up to the end", x.alloc(6), 0);
    Checks.due("slides", x.about(2), 0);
    Checks.due("place", x.look(0, 2), 10);
    NumberArena y = Checks.withGap(5, 5, limbs(6));
    Checks.due("6 cells over a gap, one behind the end", y.alloc(6), 0);
    Checks.due("slides", y.about(2), 1);
    Checks.due("place", y.look(0, 2), 6);
  }

  private static void ofOneCellTooManySlides() {
    Checks.says("Terms: TAKE: if they still don't, the call is refused: NO_ROOM");
    NumberArena x = Checks.withGap(5, 6, limbs(5));
    Checks.due("all cells that there are", x.alloc(11), 0);
    Checks.due("slides", x.about(2), 1);
    NumberArena y = Checks.withGap(5, 6, limbs(5));
    Checks.due("one more", y.alloc(12), NO_ROOM);
    Checks.due("slides", y.about(2), 1);
    Checks.due("live", y.about(3), 1);
    NumberArena z = new NumberArena(1, 16, 8);
    Checks.changesNothing(z, "alloc(17) of 16", NO_ROOM, 1, a -> a.alloc(17));
    Checks.changesNothing(z, "alloc(64) of 16", NO_ROOM, 1, a -> a.alloc(64));
  }

  private static void whatWasTakenGoes() {
    Checks.says("Terms: what was taken in a call and is not a handle's RUN goes as the call ends");
    NumberArena x = Checks.arena(60, 8, 3, 3, 6, 3);
    x.setLimb(0, 2, 9);
    x.setLimb(1, 1, 9);
    String[] calls = {"mul", "divmod", "powmod", "gcd", "root", "jacobi"};
    for (int k = 0; k < calls.length; k++) {
      x.setLimb(1, 0, 1);
      int[] answers = {
        k == 0 ? x.mul(2, 0, 1) : 0, k == 1 ? x.divmod(2, 3, 0, 1) : 0,
        k == 2 ? x.powmod(2, 0, 0, 1) : 0, k == 3 ? x.gcd(2, 0, 1) : 0,
        k == 4 ? x.root(2, 0) : 0, k == 5 ? x.jacobi(0, 1) : 0,
      };
      Checks.due(calls[k] + " answers no code", answers[k] >= 0, true);
      Checks.due("cells behind " + calls[k], x.about(0), 15);
      Checks.due("end behind " + calls[k], x.about(1), 15);
      Checks.due("cell behind " + calls[k], x.cell(15), NONE);
    }
    Checks.due("all the others are free", x.alloc(45), 4);
  }

  private static void whatWasTakenGoesFromARefusedCall() {
    Checks.says("Terms: what was taken goes as the call ends, NO_ROOM or not");
    for (int free = 0; free < 9; free++) {
      NumberArena x = Checks.withFree(free, limbs(3), limbs(2), BigInteger.ZERO, BigInteger.ZERO);
      Checks.changesNothing(x, "divmod with " + free + " free", NO_ROOM, 1, a -> a.divmod(2, 3, 0, 1));
      if (free > 0) {
        Checks.due("they are free still", x.alloc(free) >= 0, true);
        Checks.due("slides", x.about(2), 1);
      }
    }
  }

  private static void slides() {
    inTheOrderOfTheirPlaces();
    theFirstOneTo0();
    whatTheCallHasTakenToo();
    slidRunsStayInARefusedCall();
  }

  private static void inTheOrderOfTheirPlaces() {
    Checks.says("Terms: SLID: in the order of their PLACES each comes down to the one below it");
    NumberArena x = Checks.arena(16, 8, 2, 3, 4);
    x.setLimb(0, 0, 7);
    x.setLimb(2, 3, 8);
    Checks.due("resize(0, 1)", x.resize(0, 1), 0);
    Checks.due("handle 0 is the highest", x.look(0, 2), 9);
    x.release(1);
    Checks.due("alloc(11)", x.alloc(11), 1);
    Checks.due("handle 2 is the lowest", x.look(2, 2), 0);
    Checks.due("handle 0 behind it", x.look(0, 2), 4);
    Checks.due("handle 1 behind that", x.look(1, 2), 5);
    Checks.due("limb of 0", x.limb(0, 0), 7);
    Checks.due("limb of 2", x.limb(2, 3), 8);
    Checks.due("slides", x.about(2), 1);
  }

  private static void theFirstOneTo0() {
    Checks.says("Terms: SLID: each to the end of the one below it (the first one to 0)");
    NumberArena x = Checks.arena(24, 8, 5, 4, 3, 2, 1);
    for (int h = 0; h < 5; h++) {
      x.setLimb(h, 0, 10 + h);
      x.setLimb(h, 4 - h, 20 + h);
    }
    x.release(0);
    x.release(2);
    Checks.due("alloc(16)", x.alloc(16), 0);
    int[] places = {7, 0, NONE, 4, 6};
    for (int h : new int[] {0, 1, 3, 4}) {
      Checks.due("place of " + h, x.look(h, 2), places[h]);
    }
    int[] due = {11, 0, 0, 21, 13, 23, 24, 0};
    for (int i = 0; i < due.length; i++) {
      Checks.due("cell(" + i + ")", x.cell(i), due[i]);
    }
    Checks.due("the new one ends", x.about(1), 23);
  }

  private static void whatTheCallHasTakenToo() {
    Checks.says("Terms: SLID: all RUNS that there are, those taken in this call, too");
    NumberArena x = Checks.withGap(8, 5, limbs(2), BigInteger.ZERO);
    Checks.due("4 ahead fit behind, 4 for the product do not", x.mul(2, 1, 1), 4);
    Checks.due("slides", x.about(2), 1);
    Checks.due("place of the factor", x.look(1, 2), 0);
    Checks.due("place of the product, behind the 4", x.look(2, 2), 7);
    Checks.due("which are in no run now", x.cell(6), NONE);
    Checks.due("cells", x.about(0), 6);
  }

  private static void slidRunsStayInARefusedCall() {
    Checks.says("Terms: SLID RUNS stay so (NO_ROOM or not)");
    NumberArena x = Checks.withGap(6, 4, limbs(3), limbs(4));
    Checks.due("alloc(11) of 10", x.alloc(11), NO_ROOM);
    Checks.due("place of 1", x.look(1, 2), 0);
    Checks.due("place of 2", x.look(2, 2), 3);
    Checks.due("end", x.about(1), 7);
    Checks.due("number of 1", Checks.get(x, 1), limbs(3));
    Checks.due("number of 2", Checks.get(x, 2), limbs(4));
    Checks.due("cell(7)", x.cell(7), NONE);
    Checks.due("cell(12)", x.cell(12), NONE);
  }

  private static void comes() {
    tooLongAheadOfItsTake();
    inItsOwnRunIfThatIsLongEnough();
    inCellsThatAreTakenIfNot();
    theOldRunGoesThen();
    lengthsAreThoseAsTheCallBegins();
  }

  private static void tooLongAheadOfItsTake() {
    Checks.says("Terms: COMES: n above 64: TOO_LONG (ahead of its TAKE)");
    NumberArena x = Checks.withFree(0, HIGHEST, BigInteger.ONE);
    Checks.changesNothing(x, "2^960 by add, no cell being free", TOO_LONG, a -> a.add(1, 0, 1));
    NumberArena y = Checks.withFree(0, HIGHEST, BigInteger.ONE);
    Checks.changesNothing(y, "2^960 by shift, no cell being free", TOO_LONG, a -> a.shift(1, 1, 960));
  }

  private static void inItsOwnRunIfThatIsLongEnough() {
    Checks.says("Terms: COMES: if n is above its ROOM, n cells are TAKEN");
    NumberArena x = Checks.arena(16, 8, 3, 3, 10);
    x.setLimb(0, 2, 32767);
    Checks.due("3 limbs in a room of 3, no cell being free", x.add(1, 0, 2), 3);
    Checks.due("its place", x.look(1, 2), 3);
    x.setLimb(0, 2, 0);
    Checks.due("no limb in a room of 3", x.add(1, 0, 2), 0);
    Checks.due("its place", x.look(1, 2), 3);
    Checks.due("its room", x.look(1, 1), 3);
    Checks.due("0 where a limb was", x.cell(5), 0);
    Checks.due("slides", x.about(2), 0);
  }

  private static void inCellsThatAreTakenIfNot() {
    Checks.says("Terms: COMES: n cells are TAKEN: they are its RUN as the call ends");
    NumberArena x = Checks.arena(20, 8, 4, 3, 1);
    x.setLimb(0, 3, 1);
    Checks.due("4 limbs in a room of 3", x.add(1, 0, 2), 4);
    Checks.due("its place", x.look(1, 2), 8);
    Checks.due("its room", x.look(1, 1), 4);
    Checks.due("cell(11)", x.cell(11), 1);
    Checks.due("cells of all runs", x.about(0), 9);
    Checks.due("the old one is in no run", x.cell(4), NONE);
  }

  private static void theOldRunGoesThen() {
    Checks.says("Terms: COMES: and the old one goes then");
    NumberArena x = Checks.arena(16, 8, 8);
    x.setLimb(0, 7, 20000);
    Checks.changesNothing(x, "9 cells, 8 being free and 8 in the old run", NO_ROOM, 1, a -> a.shift(0, 0, 1));
    NumberArena y = Checks.arena(17, 8, 8);
    y.setLimb(0, 7, 20000);
    Checks.due("9 cells, 9 being free", y.shift(0, 0, 1), 9);
    Checks.due("place", y.look(0, 2), 8);
    Checks.due("cells of all runs", y.about(0), 9);
    Checks.due("slides", y.about(2), 0);
  }

  private static void lengthsAreThoseAsTheCallBegins() {
    Checks.says("Terms: what is told as LENGTH is that of the NUMBERS as the call begins");
    NumberArena x = Checks.withFree(8, limbs(2));
    Checks.due("2 limbs by themselves onto themselves: 4, then 4", x.mul(0, 0, 0), 4);
    Checks.due("slides", x.about(2), 0);
    Checks.due("place", x.look(0, 2), x.about(6) - 4);
    NumberArena y = Checks.withFree(8, limbs(2), limbs(1));
    Checks.due("2 limbs by 1 onto themselves: 3, 1, 2, then 2", y.divmod(1, 0, 0, 1), 2);
    Checks.due("slides", y.about(2), 0);
    Checks.due("place", y.look(1, 2), y.about(6) - 2);
    Checks.due("quotient", Checks.get(y, 1), Checks.big(32769));
    Checks.due("rest", Checks.get(y, 0), BigInteger.ZERO);
  }

  private static void codes() {
    badHandleAheadOfAll();
    ofSeveralHandlesAny();
    aCodeChangesNothing();
  }

  private static void badHandleAheadOfAll() {
    Checks.says("Terms: BAD_HANDLE ahead of all");
    Supplier<NumberArena> x = () -> {
      NumberArena made = Checks.arena(16, 8, 10, 6);
      made.word(5);
      return made;
    };
    Checks.changesNothing(x, "resize to 0", BAD_HANDLE, a -> a.resize(2, 0));
    Checks.changesNothing(x, "setLimb of -1", BAD_HANDLE, a -> a.setLimb(2, -1, -1));
    Checks.changesNothing(x, "limb -1", BAD_HANDLE, a -> a.limb(2, -1));
    Checks.changesNothing(x, "look at 4", BAD_HANDLE, a -> a.look(2, 4));
    Checks.changesNothing(x, "shift by 961", BAD_HANDLE, a -> a.shift(0, 2, 961));
    Checks.changesNothing(x, "divmod by 0, q being r", BAD_HANDLE, a -> a.divmod(0, 0, 2, 1));
    Checks.changesNothing(x, "powmod modulo 0", BAD_HANDLE, a -> a.powmod(2, 0, 0, 0));
    Checks.changesNothing(x, "jacobi by 0", BAD_HANDLE, a -> a.jacobi(2, 0));
    Checks.changesNothing(x, "number in base 1", BAD_HANDLE, a -> a.number(2, 1));
    Checks.changesNothing(x, "text in base 1", BAD_HANDLE, a -> a.text(2, 1));
    Checks.changesNothing(x, "check of a row that is malformed", BAD_HANDLE, a -> a.check(2));
  }

  private static void ofSeveralHandlesAny() {
    Checks.says("Terms: BAD_HANDLE (of several handles any of them): not live, or none");
    for (int h : new int[] {1, 3, 8, -2, MIN, MAX}) {
      NumberArena x = new NumberArena(8, 60, 8);
      x.alloc(1);
      x.alloc(1);
      x.alloc(1);
      x.release(1);
      x.setLimb(0, 0, 3);
      int[] answers = {
        x.add(h, 0, 0), x.add(0, h, 0), x.add(0, 0, h), x.sub(h, 0, 0), x.sub(0, h, 0),
        x.sub(0, 0, h), x.mul(h, 0, 0), x.mul(0, h, 0), x.mul(0, 0, h), x.divmod(h, 2, 0, 0),
        x.divmod(2, h, 0, 0), x.divmod(0, 2, h, 0), x.divmod(0, 2, 0, h), x.powmod(h, 0, 0, 0),
        x.powmod(0, h, 0, 0), x.powmod(0, 0, h, 0), x.powmod(0, 0, 0, h), x.gcd(h, 0, 0),
        x.gcd(0, h, 0), x.gcd(0, 0, h), x.root(h, 0), x.root(0, h), x.shift(h, 0, 0),
        x.shift(0, h, 0), x.compare(h, 0), x.compare(0, h), x.jacobi(h, 0), x.jacobi(0, h),
        x.release(h), x.resize(h, 1), x.setLimb(h, 0, 0), x.limb(h, 0), x.look(h, 0),
        x.number(h, 10), x.text(h, 10), x.check(h), x.prove(h),
      };
      for (int k = 0; k < answers.length; k++) {
        Checks.due("call " + k + " with the handle " + h, answers[k], BAD_HANDLE);
      }
      Checks.due("the number of 0", x.limb(0, 0), 3);
      Checks.due("live", x.about(3), 2);
    }
  }

  private static void aCodeChangesNothing() {
    Checks.says("Terms: a call that answers a CODE changes nothing but what is told");
    Supplier<NumberArena> x = () -> {
      NumberArena made = Checks.withFree(0, limbs(2), limbs(1), BigInteger.ZERO);
      Checks.words(made, 4, 5, 6);
      made.text(0, 36);
      return made;
    };
    Checks.changesNothing(x.get(), "mul", NO_ROOM, 1, a -> a.mul(2, 0, 1));
    Checks.changesNothing(x.get(), "jacobi", NO_ROOM, 1, a -> a.jacobi(0, 1));
    Checks.changesNothing(x, "sub", NEGATIVE, a -> a.sub(2, 1, 0));
    Checks.changesNothing(x, "divmod", ALIAS, a -> a.divmod(2, 2, 0, 1));
    Checks.changesNothing(x, "powmod", ZERO, a -> a.powmod(2, 0, 1, 2));
    Checks.changesNothing(x, "shift", TOO_LONG, a -> a.shift(2, 0, 940));
    Checks.changesNothing(x, "word", BAD_ARG, a -> a.word(-1));
    Checks.changesNothing(x, "text", BAD_ARG, a -> a.text(0, 37));
  }

  private static void newObject() {
    Checks.says("Promise 1: so many handles (1 .. 24); what is outside is the nearest");
    for (int handles : new int[] {MIN, -1, 0, 1, 2, 23, 24, 25, MAX}) {
      NumberArena x = new NumberArena(handles, 100, 20);
      int due = Math.max(1, Math.min(24, handles));
      Checks.due("H of " + handles, x.about(5), due);
      for (int h = 0; h < due; h++) {
        Checks.due("alloc of " + handles, x.alloc(1), h);
      }
      Checks.due("one handle more than " + due, x.alloc(1), FULL);
    }
    Checks.says("Promise 1: cells (16 .. 800); what is outside is the nearest");
    for (int cells : new int[] {MIN, -1, 0, 15, 16, 17, 799, 800, 801, MAX}) {
      NumberArena x = new NumberArena(24, cells, 20);
      int due = Math.max(16, Math.min(800, cells));
      Checks.due("C of " + cells, x.about(6), due);
      for (int left = due; left > 0; left -= 64) {
        Checks.due("alloc of " + cells, x.alloc(Math.min(64, left)) >= 0, true);
      }
      Checks.due("the end of " + cells, x.about(1), due);
      Checks.due("the last cell of " + cells, x.cell(due - 1), 0);
      Checks.due("one cell more than " + due, x.alloc(1), NO_ROOM);
    }
    Checks.says("Promise 1: words (8 .. 400); what is outside is the nearest");
    for (int words : new int[] {MIN, -1, 0, 7, 8, 9, 399, 400, 401, MAX}) {
      NumberArena x = new NumberArena(1, 16, words);
      int due = Math.max(8, Math.min(400, words));
      Checks.due("W of " + words, x.about(7), due);
      for (int k = 1; k <= due; k++) {
        Checks.due("word of " + words, x.word(k), k);
      }
      Checks.due("one word more than " + due, x.word(1), FULL);
    }
    nothingIsThereAtFirst();
  }

  private static void nothingIsThereAtFirst() {
    Checks.says("Promise 1: all handles are free; no words, an empty tape");
    NumberArena x = new NumberArena(24, 800, 400);
    for (int what : new int[] {0, 1, 2, 3, 4, 8}) {
      Checks.due("about(" + what + ")", x.about(what), 0);
    }
    for (int h = 0; h < 24; h++) {
      Checks.due("look(" + h + ", 0)", x.look(h, 0), BAD_HANDLE);
    }
    Checks.due("told(0)", x.told(0), NONE);
    Checks.due("out(0)", x.out(0), NONE);
    Checks.due("fault()", x.fault(), NONE);
    Checks.due("end(1)", x.end(1), false);
    Checks.due("cell(0)", x.cell(0), NONE);
    Checks.due("cell(799)", x.cell(799), NONE);
  }

  private static void alloc() {
    Checks.says("Promise 2: BAD_ARG: room is not 1 .. 64");
    for (int room : new int[] {MIN, -1, 0, 65, MAX}) {
      Checks.changesNothing(new NumberArena(3, 70, 8), "alloc(" + room + ")", BAD_ARG, a -> a.alloc(room));
    }
    NumberArena x = new NumberArena(3, 70, 8);
    Checks.due("alloc(1)", x.alloc(1), 0);
    Checks.due("alloc(64)", x.alloc(64), 1);
    Checks.says("Promise 2: FULL: no handle is free");
    Supplier<NumberArena> full = () -> {
      NumberArena made = new NumberArena(2, 16, 8);
      Checks.due("alloc(9)", made.alloc(9), 0);
      Checks.due("the last handle", made.alloc(7), 1);
      return made;
    };
    Checks.changesNothing(full, "BAD_ARG ahead of FULL", BAD_ARG, a -> a.alloc(65));
    Checks.changesNothing(full, "FULL ahead of NO_ROOM", FULL, a -> a.alloc(1));
    Checks.says("Promise 2: NO_ROOM");
    NumberArena y = Checks.arena(16, 8, 11);
    Checks.changesNothing(y, "6 of 5 cells", NO_ROOM, 1, a -> a.alloc(6));
    Checks.due("5 of 5 cells", y.alloc(5), 1);
    theLeastFreeHandle();
    withZeroInItsRun();
  }

  private static void theLeastFreeHandle() {
    Checks.says("Promise 2: the least free handle is live then");
    NumberArena x = Checks.arena(60, 8, 1, 1, 1, 1);
    x.release(3);
    x.release(1);
    Checks.due("of 1, 3 and more", x.alloc(1), 1);
    Checks.due("of 3 and more", x.alloc(1), 3);
    Checks.due("of 4 and more", x.alloc(1), 4);
    x.release(0);
    Checks.due("of 0, 5 and more", x.alloc(1), 0);
  }

  private static void withZeroInItsRun() {
    Checks.says("Promise 2: with 0 in a RUN of so many cells");
    NumberArena x = Checks.arena(16, 8, 16);
    for (int i = 0; i < 16; i++) {
      x.setLimb(0, i, 32767);
    }
    x.release(0);
    Checks.due("alloc(16)", x.alloc(16), 0);
    Checks.due("its length", x.look(0, 0), 0);
    Checks.due("its room", x.look(0, 1), 16);
    for (int i = 0; i < 16; i++) {
      Checks.due("cell(" + i + ")", x.cell(i), 0);
    }
    NumberArena y = Checks.withFree(4, limbs(2), limbs(2));
    Checks.due("a sum of 3 limbs", y.add(0, 0, 1), 3);
    Checks.due("alloc(1) behind it", y.alloc(1) >= 0, true);
    Checks.due("its length", y.look(y.about(3) - 1, 0), 0);
    Checks.due("its cell", y.cell(y.about(1) - 1), 0);
  }

  private static void release() {
    Checks.says("Promise 3: BAD_HANDLE");
    for (int h : new int[] {MIN, -1, 2, 23, 24, MAX}) {
      Checks.changesNothing(Checks.arena(16, 8, 2, 3), "release(" + h + ")", BAD_HANDLE, a -> a.release(h));
    }
    NumberArena x = Checks.arena(16, 8, 2, 3);
    Checks.says("Promise 3: a handle is free, its RUN goes");
    Checks.due("release(1)", x.release(1), 0);
    Checks.changesNothing(x, "release(1) again", BAD_HANDLE, a -> a.release(1));
    Checks.due("end", x.about(1), 2);
    Checks.due("the last one", x.release(0), 0);
    Checks.due("end without any", x.about(1), 0);
    Checks.due("cell(0)", x.cell(0), NONE);
    Checks.due("all handles and cells again", x.alloc(16), 0);
  }

  private static void resize() {
    Checks.says("Promise 4: BAD_ARG: room is not 1 .. 64");
    for (int room : new int[] {MIN, -1, 0, 65, MAX}) {
      Checks.changesNothing(Checks.arena(150, 8, 3), "resize(0, " + room + ")", BAD_ARG, a -> a.resize(0, room));
    }
    NumberArena x = Checks.arena(150, 8, 3);
    Checks.due("resize(0, 1)", x.resize(0, 1), 0);
    Checks.due("resize(0, 64)", x.resize(0, 64), 0);
    Checks.due("its room", x.look(0, 1), 64);
    Checks.says("Promise 4: BAD_HANDLE");
    for (int h : new int[] {MIN, -1, 1, 24, MAX}) {
      Checks.changesNothing(Checks.arena(16, 8, 3), "resize(" + h + ", 3)", BAD_HANDLE, a -> a.resize(h, 3));
    }
    belowItsLength();
    theSameRoom();
    resizeWithoutRoom();
  }

  private static void belowItsLength() {
    Checks.says("Promise 4: BAD_ARG: room is below its LENGTH");
    NumberArena x = Checks.arena(24, 8, 5, 3);
    x.setLimb(0, 2, 9);
    Checks.changesNothing(x, "2 cells for 3 limbs", BAD_ARG, a -> a.resize(0, 2));
    Checks.due("3 cells for 3 limbs", x.resize(0, 3), 0);
    Checks.due("limb 2", x.limb(0, 2), 9);
    Checks.due("its place: TAKEN, though it is less", x.look(0, 2), 8);
    Checks.changesNothing(x, "0 cells for no limb", BAD_ARG, a -> a.resize(1, 0));
    Checks.due("1 cell for no limb", x.resize(1, 1), 0);
    NumberArena y = Checks.withFree(0, limbs(10), limbs(6));
    Checks.changesNothing(y, "BAD_ARG ahead of NO_ROOM", BAD_ARG, a -> a.resize(0, 9));
  }

  private static void theSameRoom() {
    Checks.says("Promise 4: TAKEN if it has another ROOM");
    NumberArena x = Checks.withFree(0, limbs(10), limbs(6));
    Checks.changesNothing(x, "the same room, no cell being free", 0, a -> a.resize(0, 10));
    NumberArena y = Checks.arena(40, 8, 4, 4);
    y.setLimb(0, 1, 3);
    Checks.changesNothing(y, "the same room, cells being free", 0, a -> a.resize(0, 4));
    Checks.due("one cell more", y.resize(0, 5), 0);
    Checks.due("its place", y.look(0, 2), 8);
    Checks.due("0 above its number", y.cell(12), 0);
    Checks.due("its number", Checks.get(y, 0), Checks.big(3 * 32768));
  }

  private static void resizeWithoutRoom() {
    Checks.says("Promise 4: NO_ROOM");
    NumberArena x = Checks.withFree(4, limbs(3), limbs(9));
    Checks.changesNothing(x, "5 of 4 cells", NO_ROOM, 1, a -> a.resize(0, 5));
    Checks.due("4 of 4 cells", x.resize(0, 4), 0);
    Checks.due("slides", x.about(2), 1);
    Checks.due("its number", Checks.get(x, 0), limbs(3));
    NumberArena y = Checks.arena(16, 8, 9);
    Checks.changesNothing(y, "less, but more than is free beside the old run", NO_ROOM, 1, a -> a.resize(0, 8));
    Checks.due("as much as is free", y.resize(0, 7), 0);
  }

  private static void setLimb() {
    Supplier<NumberArena> two = () -> Checks.withFree(8, Checks.big(8 * 32768 * 32768L), limbs(3));
    Checks.says("Promise 5: BAD_ARG: i is not 0 .. ROOM - 1");
    for (int i : new int[] {MIN, -1, 3, 64, MAX}) {
      Checks.changesNothing(two, "setLimb(0, " + i + ", 5)", BAD_ARG, a -> a.setLimb(0, i, 5));
    }
    NumberArena x = two.get();
    Checks.due("setLimb(0, 0, 5)", x.setLimb(0, 0, 5), 3);
    Checks.due("setLimb(0, 2, 5)", x.setLimb(0, 2, 5), 3);
    Checks.due("limb(0, 2)", x.limb(0, 2), 5);
    Checks.says("Promise 5: BAD_ARG: w is not 0 .. 32767");
    for (int w : new int[] {MIN, -1, 32768, MAX}) {
      Checks.changesNothing(two, "setLimb(0, 0, " + w + ")", BAD_ARG, a -> a.setLimb(0, 0, w));
    }
    Checks.due("setLimb(0, 0, 32767)", x.setLimb(0, 0, 32767), 3);
    Checks.due("limb(0, 0)", x.limb(0, 0), 32767);
    Checks.due("setLimb(0, 0, 0)", x.setLimb(0, 0, 0), 3);
    Checks.due("limb(0, 0)", x.limb(0, 0), 0);
    Checks.says("Promise 5: BAD_HANDLE");
    for (int h : new int[] {MIN, -1, 3, 24, MAX}) {
      Checks.changesNothing(two, "setLimb(" + h + ", 0, 1)", BAD_HANDLE, a -> a.setLimb(h, 0, 1));
    }
    setLimbTellsTheLength();
  }

  private static void setLimbTellsTheLength() {
    Checks.says("Promise 5: limb i is w: the LENGTH");
    NumberArena x = Checks.arena(16, 8, 4);
    Checks.due("0 where 0 was", x.setLimb(0, 3, 0), 0);
    Checks.due("the highest", x.setLimb(0, 3, 1), 4);
    Checks.due("below it", x.setLimb(0, 0, 1), 4);
    Checks.due("0 below it", x.setLimb(0, 1, 0), 4);
    Checks.due("no highest: down over zeros", x.setLimb(0, 3, 0), 1);
    Checks.due("none", x.setLimb(0, 0, 0), 0);
  }

  private static void limb() {
    NumberArena x = Checks.arena(16, 8, 3, 3);
    x.setLimb(0, 1, 8);
    x.setLimb(1, 0, 9);
    Checks.says("Promise 6: NONE if i is below 0");
    Checks.due("limb(0, -1)", x.limb(0, -1), NONE);
    Checks.due("limb(1, -1), where another run is", x.limb(1, -1), NONE);
    Checks.due("limb(0, MIN)", x.limb(0, MIN), NONE);
    Checks.says("Promise 6: 0 above its LENGTH");
    Checks.due("limb(0, 0)", x.limb(0, 0), 0);
    Checks.due("limb(0, 1)", x.limb(0, 1), 8);
    for (int i : new int[] {2, 3, 4, 63, 64, 65, 800, MAX}) {
      Checks.due("limb(0, " + i + ")", x.limb(0, i), 0);
    }
    NumberArena y = Checks.withFree(0, limbs(8), limbs(8));
    Checks.due("limb(0, 7) of a full run", y.limb(0, 7), 32767);
    Checks.due("limb(0, 8), which is a limb of the next run", y.limb(0, 8), 0);
    Checks.due("limb(1, 8), behind the last cell", y.limb(1, 8), 0);
    Checks.says("Promise 6: BAD_HANDLE");
    for (int h : new int[] {MIN, -1, 2, 24, MAX}) {
      Checks.due("limb(" + h + ", 0)", x.limb(h, 0), BAD_HANDLE);
      Checks.due("limb(" + h + ", -1)", x.limb(h, -1), BAD_HANDLE);
    }
  }

  private static void look() {
    NumberArena x = Checks.arena(80, 8, 3, 64);
    Checks.says("Promise 7: NONE for another what");
    for (int what : new int[] {MIN, -1, 4, MAX}) {
      Checks.due("look(0, " + what + ")", x.look(0, what), NONE);
    }
    Checks.says("Promise 7: 3 how many bits (0 of 0)");
    Checks.due("of 0", x.look(0, 3), 0);
    x.setLimb(0, 0, 1);
    Checks.due("of 1", x.look(0, 3), 1);
    x.setLimb(0, 0, 32767);
    Checks.due("of 32767", x.look(0, 3), 15);
    x.setLimb(0, 0, 0);
    x.setLimb(0, 1, 1);
    Checks.due("of 32768", x.look(0, 3), 16);
    x.setLimb(1, 63, 32767);
    Checks.due("of the longest", x.look(1, 3), 960);
    x.setLimb(1, 63, 1);
    Checks.due("of 2^945", x.look(1, 3), 946);
    Checks.says("Promise 7: BAD_HANDLE");
    for (int h : new int[] {MIN, -1, 2, 24, MAX}) {
      Checks.due("look(" + h + ", 0)", x.look(h, 0), BAD_HANDLE);
      Checks.due("look(" + h + ", 4)", x.look(h, 4), BAD_HANDLE);
    }
  }

  private static void about() {
    NumberArena x = Checks.arena(20, 9, 3, 4);
    Checks.says("Promise 8: NONE for another what");
    for (int what : new int[] {MIN, -1, 9, MAX}) {
      Checks.due("about(" + what + ")", x.about(what), NONE);
    }
    Checks.says("Promise 8: the end of the highest one (0 without)");
    Checks.due("about(1)", x.about(1), 7);
    x.release(0);
    Checks.due("about(1) over a gap", x.about(1), 7);
    Checks.due("about(0) over a gap", x.about(0), 4);
    x.release(1);
    Checks.due("about(1) without", x.about(1), 0);
    Checks.due("about(0) without", x.about(0), 0);
    Checks.due("about(3) without", x.about(3), 0);
    Checks.says("Promise 8: how often RUNS were SLID (also if none moved)");
    Checks.due("no run at all", x.alloc(21), NO_ROOM);
    Checks.due("about(2)", x.about(2), 1);
    x.alloc(20);
    Checks.due("a run at 0", x.alloc(1), NO_ROOM);
    Checks.due("about(2)", x.about(2), 2);
    Checks.says("Promise 8: 4: words, 8: bytes of the TAPE");
    for (int k = 1; k <= 9; k++) {
      x.word(k);
      Checks.due("about(4)", x.about(4), k);
    }
    x.word(10);
    Checks.due("about(4) when there are W", x.about(4), 9);
    for (int k = 1; k <= 50; k++) {
      x.feed(0, 0, 0, 0, 0);
      Checks.due("about(8)", x.about(8), 20 * k);
    }
  }

  private static void cell() {
    Checks.says("Promise 9: NONE if it is in no RUN");
    NumberArena x = Checks.withGap(4, 5, limbs(3), limbs(4));
    for (int i : new int[] {MIN, -1, 0, 3, 11, 15, 16, 800, MAX}) {
      Checks.due("cell(" + i + ")", x.cell(i), NONE);
    }
    for (int i = 4; i < 11; i++) {
      Checks.due("cell(" + i + ")", x.cell(i), 32767);
    }
    Checks.says("Promise 9: the limb in a cell");
    x.setLimb(2, 3, 0);
    Checks.due("above the length, but in the run", x.cell(10), 0);
  }
}
