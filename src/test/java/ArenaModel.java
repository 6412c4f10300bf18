import java.math.BigInteger;
import java.util.ArrayList;
import java.util.List;

/** The document once more, over BigInteger and lists, for ModelTest to compare with. */
final class ArenaModel {
  private static final BigInteger ONE = BigInteger.ONE;
  private static final BigInteger TWO = BigInteger.valueOf(2);

  /** Thrown where the document refuses a call for want of cells. */
  private static final class NoRoom extends RuntimeException {
    private static final long serialVersionUID = 1;
  }

  private static final class Run {
    int place;
    final int size;

    Run(int place, int size) {
      this.place = place;
      this.size = size;
    }
  }

  private static final class Slot {
    Run run;
    BigInteger value = BigInteger.ZERO;
  }

  private static final class Node {
    BigInteger p;
    BigInteger w;
    final List<Integer> exponents = new ArrayList<>();
    final List<Node> parts = new ArrayList<>();
  }

  private final Slot[] slots;
  private final int cells;
  private final int most;
  /** In the order of their places. */
  private final List<Run> runs = new ArrayList<>();
  private final StringBuilder tape = new StringBuilder();
  private List<Integer> words = new ArrayList<>();
  private String written = "";
  private int slides = 0;
  private int fault = -1;
  private int parsed;

  ArenaModel(int handles, int cells, int words) {
    this.slots = new Slot[Math.min(24, Math.max(1, handles))];
    this.cells = Math.min(800, Math.max(16, cells));
    this.most = Math.min(400, Math.max(8, words));
  }

  private boolean dead(int... handles) {
    for (int h : handles) {
      if (h < 0 || h >= slots.length || slots[h] == null) {
        return true;
      }
    }
    return false;
  }

  private static int length(BigInteger value) {
    return (value.bitLength() + 14) / 15;
  }

  private BigInteger value(int h) {
    return slots[h].value;
  }

  private int len(int h) {
    return length(slots[h].value);
  }

  private int top() {
    return runs.isEmpty() ? 0 : runs.get(runs.size() - 1).place + runs.get(runs.size() - 1).size;
  }

  private void slide() {
    slides++;
    int end = 0;
    for (Run run : runs) {
      run.place = end;
      end += run.size;
    }
  }

  private Run take(int n) {
    if (n <= 0) {
      return null;
    }
    if (top() + n > cells) {
      slide();
    }
    if (top() + n > cells) {
      throw new NoRoom();
    }
    Run run = new Run(top(), n);
    runs.add(run);
    return run;
  }

  private void dropTaken() {
    runs.removeIf(run -> {
      for (Slot slot : slots) {
        if (slot != null && slot.run == run) {
          return false;
        }
      }
      return true;
    });
  }

  /** Takes these ahead, then what the values need that come to the handles; -4 if refused. */
  private int bring(int answer, int[] ahead, int[] handles, BigInteger... values) {
    try {
      for (int n : ahead) {
        take(n);
      }
      Run[] taken = new Run[handles.length];
      for (int k = 0; k < handles.length; k++) {
        boolean wants = handles[k] != -1 && length(values[k]) > slots[handles[k]].run.size;
        taken[k] = wants ? take(length(values[k])) : null;
      }
      for (int k = 0; k < handles.length; k++) {
        if (handles[k] != -1) {
          slots[handles[k]].value = values[k];
          slots[handles[k]].run = taken[k] == null ? slots[handles[k]].run : taken[k];
        }
      }
      return answer;
    } catch (NoRoom refused) {
      return -4;
    } finally {
      dropTaken();
    }
  }

  private int bring(int d, BigInteger value, int... ahead) {
    return length(value) > 64 ? -8 : bring(length(value), ahead, new int[] {d}, value);
  }

  int alloc(int room) {
    if (room < 1 || room > 64) {
      return -3;
    }
    for (int h = 0; h < slots.length; h++) {
      if (slots[h] == null) {
        try {
          Run run = take(room);
          slots[h] = new Slot();
          slots[h].run = run;
          return h;
        } catch (NoRoom refused) {
          return -4;
        }
      }
    }
    return -9;
  }

  int release(int h) {
    if (dead(h)) {
      return -2;
    }
    slots[h] = null;
    dropTaken();
    return 0;
  }

  int resize(int h, int room) {
    if (dead(h)) {
      return -2;
    }
    if (room < 1 || room > 64 || room < len(h)) {
      return -3;
    }
    if (room != slots[h].run.size) {
      try {
        slots[h].run = take(room);
      } catch (NoRoom refused) {
        return -4;
      } finally {
        dropTaken();
      }
    }
    return 0;
  }

  int setLimb(int h, int i, int w) {
    if (dead(h)) {
      return -2;
    }
    if (i < 0 || i >= slots[h].run.size || w < 0 || w > 32767) {
      return -3;
    }
    BigInteger old = BigInteger.valueOf(limb(h, i)).shiftLeft(15 * i);
    slots[h].value = value(h).subtract(old).add(BigInteger.valueOf(w).shiftLeft(15 * i));
    return len(h);
  }

  int limb(int h, int i) {
    if (dead(h)) {
      return -2;
    }
    return i < 0 ? -1 : i > 64 ? 0 : value(h).shiftRight(15 * i).intValue() & 32767;
  }

  int look(int h, int what) {
    if (dead(h)) {
      return -2;
    }
    int[] answers = {len(h), slots[h].run.size, slots[h].run.place, value(h).bitLength()};
    return what < 0 || what > 3 ? -1 : answers[what];
  }

  int about(int what) {
    int used = 0;
    int live = 0;
    for (Slot slot : slots) {
      used += slot == null ? 0 : slot.run.size;
      live += slot == null ? 0 : 1;
    }
    int[] answers = {used, top(), slides, live, words.size(), slots.length, cells, most, tape.length()};
    return what < 0 || what > 8 ? -1 : answers[what];
  }

  int cell(int i) {
    for (int h = 0; h < slots.length; h++) {
      Run run = slots[h] == null ? null : slots[h].run;
      if (run != null && i >= run.place && i < run.place + run.size) {
        return limb(h, i - run.place);
      }
    }
    return -1;
  }

  int add(int d, int a, int b) {
    return dead(d, a, b) ? -2 : bring(d, value(a).add(value(b)));
  }

  int sub(int d, int a, int b) {
    if (dead(d, a, b)) {
      return -2;
    }
    return value(a).compareTo(value(b)) < 0 ? -5 : bring(d, value(a).subtract(value(b)));
  }

  int mul(int d, int a, int b) {
    if (dead(d, a, b)) {
      return -2;
    }
    if (len(a) > 0 && len(b) > 0 && len(a) + len(b) > 64) {
      return -8;
    }
    return bring(d, value(a).multiply(value(b)), len(a) + len(b));
  }

  int divmod(int q, int r, int a, int b) {
    if (q != -1 && dead(q) || r != -1 && dead(r) || dead(a, b)) {
      return -2;
    }
    if (len(b) == 0) {
      return -6;
    }
    if (q == r && q != -1) {
      return -7;
    }
    BigInteger[] parts = value(a).divideAndRemainder(value(b));
    int[] ahead = {len(a) + 1, len(b), len(a) - len(b) + 1};
    return bring(length(parts[0]), ahead, new int[] {q, r}, parts);
  }

  int powmod(int d, int a, int e, int m) {
    if (dead(d, a, e, m)) {
      return -2;
    }
    if (len(m) == 0) {
      return -6;
    }
    BigInteger power = value(a).modPow(value(e), value(m));
    return bring(d, power, len(m), len(m), Math.max(len(a), 2 * len(m)) + 1);
  }

  int gcd(int d, int a, int b) {
    return dead(d, a, b) ? -2 : bring(d, value(a).gcd(value(b)), 2 * Math.max(len(a), len(b)));
  }

  int root(int d, int a) {
    return dead(d, a) ? -2 : bring(d, value(a).sqrt(), 3 * (len(a) + 1));
  }

  int shift(int d, int a, int n) {
    if (dead(d, a)) {
      return -2;
    }
    return n < -960 || n > 960 ? -3 : bring(d, value(a).shiftLeft(n));
  }

  int compare(int a, int b) {
    return dead(a, b) ? -2 : value(a).compareTo(value(b)) + 1;
  }

  int jacobi(int a, int m) {
    if (dead(a, m)) {
      return -2;
    }
    if (!value(m).testBit(0)) {
      return -3;
    }
    int[] ahead = {len(a), len(m)};
    return bring(symbol(value(a), value(m)) + 1, ahead, new int[0]);
  }

  // By the binary way, without division, so that it is not the one that is tested.
  private static int symbol(BigInteger top, BigInteger bottom) {
    BigInteger a = top;
    BigInteger n = bottom;
    int sign = 1;
    while (a.signum() != 0) {
      if (!a.testBit(0)) {
        a = a.shiftRight(1);
        int byEight = n.intValue() & 7;
        sign = byEight == 3 || byEight == 5 ? -sign : sign;
      } else {
        if (a.compareTo(n) < 0) {
          BigInteger swap = a;
          a = n;
          n = swap;
          sign = (a.intValue() & 3) == 3 && (n.intValue() & 3) == 3 ? -sign : sign;
        }
        a = a.subtract(n);
      }
    }
    return n.equals(ONE) ? sign : 0;
  }

  int feed(int a, int b, int c, int d, int e) {
    if (tape.length() + 20 > 1000) {
      return -1;
    }
    for (int value : new int[] {a, b, c, d, e}) {
      for (int k = 3; k >= 0; k--) {
        tape.append((char) (value >>> (8 * k) & 255));
      }
    }
    return tape.length();
  }

  boolean end(int n) {
    if (n < 0 || n > tape.length()) {
      return false;
    }
    tape.setLength(n);
    return true;
  }

  int number(int d, int base) {
    fault = -1;
    if (dead(d)) {
      return -2;
    }
    if (base < 2 || base > 36) {
      return -3;
    }
    String digits = tape.toString();
    tape.setLength(0);
    String known = "0123456789abcdefghijklmnopqrstuvwxyz".substring(0, base);
    for (int i = 0; i < digits.length(); i++) {
      if (known.indexOf(digits.charAt(i)) < 0) {
        fault = i;
        return -1;
      }
    }
    if (digits.isEmpty()) {
      fault = 0;
      return -1;
    }
    return bring(d, new BigInteger(digits, base));
  }

  int fault() {
    return fault;
  }

  int text(int a, int base) {
    if (dead(a)) {
      return -2;
    }
    if (base < 2 || base > 36) {
      return -3;
    }
    written = value(a).toString(base);
    return written.length();
  }

  int out(int i) {
    return i < 0 || i >= written.length() ? -1 : written.charAt(i);
  }

  int word(int w) {
    if (w < 0 || w > 32767) {
      return -3;
    }
    if (words.size() >= most) {
      return -9;
    }
    words.add(w);
    return words.size();
  }

  int told(int i) {
    return i < 0 || i >= words.size() ? -1 : words.get(i);
  }

  int clear() {
    int before = words.size();
    words.clear();
    return before;
  }

  int check(int h) {
    if (dead(h)) {
      return -2;
    }
    parsed = 0;
    Node node = parse(1);
    boolean whole = node != null && parsed == words.size();
    words.clear();
    if (!whole) {
      return 2;
    }
    slide();
    if (top() + 6 * len(h) + 6 > cells) {
      return -4;
    }
    return node.p.equals(value(h)) && good(node) ? 0 : 1;
  }

  private int next() {
    return parsed < words.size() ? words.get(parsed++) : -1;
  }

  private BigInteger parseNumber() {
    int limbs = next();
    if (limbs < 1 || limbs > 64) {
      return null;
    }
    BigInteger value = BigInteger.ZERO;
    int w = 0;
    for (int i = 0; i < limbs; i++) {
      w = next();
      if (w < 0) {
        return null;
      }
      value = value.add(BigInteger.valueOf(w).shiftLeft(15 * i));
    }
    return w == 0 ? null : value;
  }

  private Node parse(int open) {
    Node node = new Node();
    node.p = parseNumber();
    if (open > 12 || node.p == null) {
      return null;
    }
    if (node.p.equals(TWO)) {
      return node;
    }
    node.w = parseNumber();
    int kinds = node.w == null ? -1 : next();
    if (kinds < 1 || kinds > 20) {
      return null;
    }
    for (int k = 0; k < kinds; k++) {
      int exponent = next();
      Node part = exponent < 1 || exponent > 960 ? null : parse(open + 1);
      if (part == null) {
        return null;
      }
      node.exponents.add(exponent);
      node.parts.add(part);
    }
    return node;
  }

  private boolean good(Node node) {
    if (node.p.equals(TWO)) {
      return true;
    }
    BigInteger before = node.p.subtract(ONE);
    BigInteger total = ONE;
    BigInteger last = BigInteger.ZERO;
    boolean good = node.w.compareTo(node.p) < 0;
    for (int k = 0; good && k < node.parts.size(); k++) {
      BigInteger q = node.parts.get(k).p;
      good = q.compareTo(node.p) < 0 && q.compareTo(last) > 0 && good(node.parts.get(k));
      total = good ? total.multiply(q.pow(node.exponents.get(k))) : total;
      last = q;
    }
    good = good && total.equals(before) && node.w.modPow(before, node.p).equals(ONE);
    for (int k = 0; good && k < node.parts.size(); k++) {
      good = !node.w.modPow(before.divide(node.parts.get(k).p), node.p).equals(ONE);
    }
    return good;
  }

  int prove(int h) {
    if (dead(h)) {
      return -2;
    }
    if (len(h) > 2) {
      return -3;
    }
    if (!value(h).isProbablePrime(60)) {
      return 0;
    }
    List<Integer> made = new ArrayList<>();
    if (write(made, value(h).intValue()) > 12 || made.size() > most) {
      return -9;
    }
    words = made;
    return made.size();
  }

  private static void writeNumber(List<Integer> made, int n) {
    made.add(n > 32767 ? 2 : 1);
    made.add(n & 32767);
    if (n > 32767) {
      made.add(n >> 15);
    }
  }

  /** How many nodes are open in one another. */
  private static int write(List<Integer> made, int p) {
    writeNumber(made, p);
    if (p == 2) {
      return 1;
    }
    List<Integer> factors = new ArrayList<>();
    List<Integer> exponents = new ArrayList<>();
    int left = p - 1;
    for (int f = 2; left > 1; f++) {
      int exponent = 0;
      if ((long) f * f > left) {
        f = left;
      }
      while (left % f == 0) {
        left /= f;
        exponent++;
      }
      if (exponent > 0) {
        factors.add(f);
        exponents.add(exponent);
      }
    }
    writeNumber(made, root(p, factors));
    made.add(factors.size());
    int open = 0;
    for (int k = 0; k < factors.size(); k++) {
      made.add(exponents.get(k));
      open = Math.max(open, write(made, factors.get(k)));
    }
    return open + 1;
  }

  private static int root(int p, List<Integer> factors) {
    for (int w = 1; ; w++) {
      boolean good = true;
      for (int q : factors) {
        BigInteger power = BigInteger.valueOf(w).modPow(BigInteger.valueOf((p - 1) / q), BigInteger.valueOf(p));
        good = good && !power.equals(ONE);
      }
      if (good) {
        return w;
      }
    }
  }
}
