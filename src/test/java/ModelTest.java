import java.math.BigInteger;
import java.util.Random;

/** Long runs of calls, the same ones each time, compared with the model. */
public final class ModelTest {
  private static final int RUNS = 3000;
  // An object is used for 512 calls, and a step makes up to some 140.
  private static final int CALLS = 370;

  private final Random random;
  private final NumberArena x;
  private final ArenaModel model;
  private final int run;
  /** How long numbers are, mostly: short ones make the cells full of runs, long ones of limbs. */
  private final int limbs;
  private int calls = 0;
  private boolean right = true;

  private ModelTest(int run) {
    this.run = run;
    this.random = new Random(run);
    int handles = 1 + random.nextInt(random.nextInt(4) == 0 ? 24 : 6);
    int cells = 16 + random.nextInt(random.nextInt(3) == 0 ? 785 : random.nextInt(2) == 0 ? 25 : 120);
    int words = 8 + random.nextInt(393);
    this.limbs = random.nextInt(3) == 0 ? 64 : 1 + random.nextInt(6);
    this.x = new NumberArena(handles, cells, words);
    this.model = new ArenaModel(handles, cells, words);
  }

  public static void main(String[] args) {
    int runs = args.length > 0 ? Integer.parseInt(args[0]) : RUNS;
    for (int run = 0; run < runs; run++) {
      ModelTest test = new ModelTest(run);
      while (test.right && test.calls < CALLS) {
        test.step();
      }
    }
    Checks.finish();
  }

  private int same(String call, int got, int want) {
    calls++;
    right = right && got == want;
    Checks.due("run " + run + ", call " + calls + ": " + call, got, want);
    return want;
  }

  private boolean chance(int of) {
    return random.nextInt(of) == 0;
  }

  private int odd() {
    int[] values = {Integer.MIN_VALUE, Integer.MAX_VALUE, -1, -2, 0, 1, 24, 64, 65, 800, 32767, 32768};
    return values[random.nextInt(values.length)];
  }

  private int handle() {
    if (chance(60)) {
      return odd();
    }
    int h = random.nextInt(24);
    for (int k = 0; k < 200 && model.look(h, 0) < 0; k++) {
      h = random.nextInt(24);
    }
    return h;
  }

  /** A few handles get most results, so that the numbers of the others stay various. */
  private int target() {
    return chance(3) ? handle() : random.nextInt(2);
  }

  private int room() {
    return chance(30) ? odd() : 1 + random.nextInt(chance(6) ? 64 : Math.min(64, 1 + limbs));
  }

  private int base() {
    return chance(20) ? odd() : 2 + random.nextInt(35);
  }

  private void step() {
    int kind = random.nextInt(40);
    if (kind < 3 || calls < 5) {
      int room = room();
      same("alloc(" + room + ")", x.alloc(room), model.alloc(room));
    } else if (kind < 8) {
      change(kind);
    } else if (kind < 13) {
      fill(handle());
    } else if (kind < 31) {
      reckon(random.nextInt(9));
    } else if (kind < 35) {
      readNumber();
    } else if (kind < 36) {
      observe();
    } else if (kind < 37) {
      feedAnything();
    } else if (kind < 38) {
      certificate();
    } else {
      survey();
    }
  }

  private void change(int kind) {
    int h = handle();
    if (kind == 3 && chance(2)) {
      same("release(" + h + ")", x.release(h), model.release(h));
    } else if (kind < 6) {
      int room = room();
      same("resize(" + h + ", " + room + ")", x.resize(h, room), model.resize(h, room));
    } else {
      int i = chance(20) ? odd() : random.nextInt(chance(4) ? 64 : 1 + limbs);
      int w = chance(20) ? odd() : chance(3) ? 0 : chance(3) ? 32767 : random.nextInt(32768);
      same("setLimb(" + h + ", " + i + ", " + w + ")", x.setLimb(h, i, w), model.setLimb(h, i, w));
    }
  }

  private void fill(int h) {
    int length = Math.min(limbs, Math.max(1, model.look(h, 1)));
    for (int k = 0; k < 5; k++) {
      int i = chance(2) ? length - 1 - Math.min(k, length - 1) : random.nextInt(length);
      int w = chance(6) ? 0 : chance(3) ? 32767 : random.nextInt(32768);
      same("setLimb(" + h + ", " + i + ", " + w + ")", x.setLimb(h, i, w), model.setLimb(h, i, w));
    }
  }

  private void reckon(int kind) {
    int d = target();
    int a = handle();
    int b = handle();
    String of = "(" + d + ", " + a + ", " + b;
    if (kind == 0) {
      same("add" + of, x.add(d, a, b), model.add(d, a, b));
    } else if (kind == 1) {
      same("sub" + of, x.sub(d, a, b), model.sub(d, a, b));
    } else if (kind == 2) {
      same("mul" + of, x.mul(d, a, b), model.mul(d, a, b));
    } else if (kind == 3) {
      int q = chance(6) ? -1 : target();
      int r = chance(6) ? -1 : d;
      String call = "divmod(" + q + ", " + r + ", " + a + ", " + b;
      same(call, x.divmod(q, r, a, b), model.divmod(q, r, a, b));
    } else if (kind == 4) {
      int m = handle();
      same("powmod" + of + ", " + m, x.powmod(d, a, b, m), model.powmod(d, a, b, m));
    } else if (kind == 5) {
      same("gcd" + of, x.gcd(d, a, b), model.gcd(d, a, b));
    } else if (kind == 6) {
      same("root" + of, x.root(d, a), model.root(d, a));
    } else if (kind == 7) {
      int n = chance(8) ? (chance(2) ? 961 : -961) : random.nextInt(limbs * 15) * (chance(2) ? 1 : -1);
      same("shift" + of + " " + n, x.shift(d, a, n), model.shift(d, a, n));
    } else {
      same("compare" + of, x.compare(a, b), model.compare(a, b));
      same("jacobi" + of, x.jacobi(a, b), model.jacobi(a, b));
    }
  }

  private void feedText(String text, int cut) {
    for (int i = 0; i < text.length(); i += 20) {
      int[] p = new int[5];
      for (int k = 0; k < 20; k++) {
        p[k / 4] |= (i + k < text.length() ? text.charAt(i + k) : ' ') << (24 - 8 * (k % 4));
      }
      same("feed", x.feed(p[0], p[1], p[2], p[3], p[4]), model.feed(p[0], p[1], p[2], p[3], p[4]));
    }
    same("end(" + cut + ")", x.end(cut) ? 1 : 0, model.end(cut) ? 1 : 0);
  }

  private void readNumber() {
    int d = handle();
    int base = base();
    int bits = chance(20) ? 962 - random.nextInt(4) : 1 + random.nextInt(limbs * 15);
    BigInteger value = new BigInteger(bits, random);
    if (chance(4)) {
      value = BigInteger.ONE.shiftLeft(bits).subtract(BigInteger.valueOf(random.nextInt(3)));
    }
    String text = value.toString(Math.max(2, Math.min(36, base)));
    if (chance(12)) {
      text = text + (char) (32 + random.nextInt(95));
    }
    if (!chance(12)) {
      same("end(0)", x.end(0) ? 1 : 0, model.end(0) ? 1 : 0);
      feedText(text, text.length());
    }
    same("number(" + d + ", " + base + ")", x.number(d, base), model.number(d, base));
    if (chance(3)) {
      same("fault()", x.fault(), model.fault());
    }
  }

  private void feedAnything() {
    int kind = random.nextInt(6);
    if (kind < 3) {
      int[] p = {random.nextInt(), random.nextInt(), odd(), odd(), random.nextInt()};
      for (int k = random.nextInt(kind == 2 ? 60 : 2); k >= 0; k--) {
        same("feed", x.feed(p[0], p[1], p[2], p[3], p[4]), model.feed(p[0], p[1], p[2], p[3], p[4]));
      }
    } else if (kind < 5) {
      int n = chance(3) ? odd() : random.nextInt(model.about(8) + 2);
      same("end(" + n + ")", x.end(n) ? 1 : 0, model.end(n) ? 1 : 0);
    } else {
      int w = odd();
      same("word(" + w + ")", x.word(w), model.word(w));
    }
  }

  private void observe() {
    int h = handle();
    int i = chance(8) ? odd() : random.nextInt(70);
    int what = chance(8) ? odd() : random.nextInt(10);
    same("limb(" + h + ", " + i + ")", x.limb(h, i), model.limb(h, i));
    same("look(" + h + ", " + what + ")", x.look(h, what), model.look(h, what));
    same("about(" + what + ")", x.about(what), model.about(what));
    same("cell(" + i + ")", x.cell(i), model.cell(i));
    same("told(" + i + ")", x.told(i), model.told(i));
    same("fault()", x.fault(), model.fault());
    int base = base();
    if (chance(2)) {
      same("text(" + h + ", " + base + ")", x.text(h, base), model.text(h, base));
      for (int k = 0; k < 12; k++) {
        int at = chance(8) ? odd() : random.nextInt(chance(2) ? 10 : 300);
        same("out(" + at + ")", x.out(at), model.out(at));
      }
    }
  }

  private void survey() {
    for (int what = 0; what < 4; what++) {
      same("about(" + what + ")", x.about(what), model.about(what));
      int h = handle();
      same("look(" + h + ", " + what + ")", x.look(h, what), model.look(h, what));
    }
    for (int k = 0; k < 6; k++) {
      int i = random.nextInt(model.about(6) + 1);
      same("cell(" + i + ")", x.cell(i), model.cell(i));
    }
  }

  private void certificate() {
    int h = handle();
    int p = chance(3) ? 1 + random.nextInt(200) : random.nextInt(1 << (1 + random.nextInt(30)));
    p = chance(6) ? p : BigInteger.valueOf(p).nextProbablePrime().intValue();
    String text = Integer.toString(p);
    same("end(0)", x.end(0) ? 1 : 0, model.end(0) ? 1 : 0);
    feedText(text, text.length());
    same("number(" + h + ", 10)", x.number(h, 10), model.number(h, 10));
    same("prove(" + h + ")", x.prove(h), model.prove(h));
    int count = same("about(4)", x.about(4), model.about(4));
    if (count > 60 || chance(3)) {
      int i = random.nextInt(count + 1);
      same("told(" + i + ")", x.told(i), model.told(i));
    } else {
      feedChanged(count);
    }
    if (chance(6)) {
      same("clear()", x.clear(), model.clear());
    }
    int of = chance(8) ? handle() : h;
    same("check(" + of + ")", x.check(of), model.check(of));
  }

  // The words once more, with one of them changed, left out, or put in.
  private void feedChanged(int count) {
    int[] words = new int[count];
    for (int i = 0; i < count; i++) {
      words[i] = same("told(" + i + ")", x.told(i), model.told(i));
    }
    same("clear()", x.clear(), model.clear());
    int at = random.nextInt(count + 1);
    int way = random.nextInt(5);
    for (int i = 0; i < count; i++) {
      if (i == at && way == 0) {
        int w = random.nextInt(4);
        same("word(" + w + ")", x.word(w), model.word(w));
      }
      if (i != at || way != 1) {
        int w = i != at || way < 2 ? words[i] : way == 2 ? words[i] + 1 : way == 3 ? random.nextInt(9) : words[i] - 1;
        same("word(" + w + ")", x.word(w), model.word(w));
      }
    }
  }
}
