/** Promises 1 to 9: a new object, handles, their runs and limbs. */
public final class CellsTest {
  private static final int NONE = -1;
  private static final int BAD_HANDLE = -2;
  private static final int BAD_ARG = -3;
  private static final int NO_ROOM = -4;
  private static final int FULL = -9;

  public static void main(String[] args) {
    newObject();
    bounds(1, 16, 8, new NumberArena(0, 15, 7));
    bounds(1, 16, 8, new NumberArena(-5, -5, -5));
    bounds(1, 16, 8, new NumberArena(Integer.MIN_VALUE, Integer.MIN_VALUE, Integer.MIN_VALUE));
    bounds(24, 800, 400, new NumberArena(25, 801, 401));
    bounds(24, 800, 400, new NumberArena(Integer.MAX_VALUE, Integer.MAX_VALUE, Integer.MAX_VALUE));
    bounds(1, 16, 8, new NumberArena(1, 16, 8));
    bounds(24, 800, 400, new NumberArena(24, 800, 400));
    bounds(7, 77, 70, new NumberArena(7, 77, 70));
    alloc();
    allocSlides();
    release();
    resize();
    setLimb();
    limb();
    look();
    about();
    cell();
    deadHandles();
    Checks.finish();
  }

  private static void newObject() {
    NumberArena x = new NumberArena(3, 30, 20);
    for (int what : new int[] {0, 1, 2, 3, 4, 8}) {
      Checks.due("new: about(" + what + ")", x.about(what), 0);
    }
    Checks.due("new: look(0, 0)", x.look(0, 0), BAD_HANDLE);
    Checks.due("new: cell(0)", x.cell(0), NONE);
    Checks.due("new: fault()", x.fault(), NONE);
    Checks.due("new: out(0)", x.out(0), NONE);
    Checks.due("new: told(0)", x.told(0), NONE);
    Checks.due("new: clear()", x.clear(), 0);
    Checks.due("new: end(0)", x.end(0), true);
    Checks.due("new: end(1)", x.end(1), false);
  }

  private static void bounds(int handles, int cells, int words, NumberArena x) {
    Checks.due("bounds: about(5)", x.about(5), handles);
    Checks.due("bounds: about(6)", x.about(6), cells);
    Checks.due("bounds: about(7)", x.about(7), words);
    for (int h = 0; h < handles && h < 8; h++) {
      Checks.due("bounds: alloc", x.alloc(1), h);
    }
    for (int w = 0; w < words; w++) {
      Checks.due("bounds: word", x.word(w), w + 1);
    }
    Checks.due("bounds: one word more", x.word(0), FULL);
  }

  private static void alloc() {
    NumberArena x = new NumberArena(3, 70, 8);
    Checks.due("alloc(0)", x.alloc(0), BAD_ARG);
    Checks.due("alloc(65)", x.alloc(65), BAD_ARG);
    Checks.due("alloc(-1)", x.alloc(-1), BAD_ARG);
    Checks.due("alloc(MAX)", x.alloc(Integer.MAX_VALUE), BAD_ARG);
    Checks.due("alloc(1)", x.alloc(1), 0);
    Checks.due("alloc(64)", x.alloc(64), 1);
    Checks.due("alloc(5)", x.alloc(5), 2);
    Checks.due("alloc(0) of a full one", x.alloc(0), BAD_ARG);
    Checks.due("alloc(1) of a full one", x.alloc(1), FULL);
    Checks.due("FULL slides nothing", x.about(2), 0);
    Checks.due("its number", x.look(2, 0), 0);
    Checks.due("its room", x.look(2, 1), 5);
    Checks.due("its place", x.look(2, 2), 65);
    x.setLimb(0, 0, 9);
    x.release(0);
    Checks.due("the gap is used once the runs are slid", x.alloc(1), 0);
    Checks.due("one slide", x.about(2), 1);
    Checks.due("at the end", x.look(0, 2), 69);
    Checks.due("with 0", x.cell(69), 0);
  }

  private static void allocSlides() {
    NumberArena x = Checks.arena(20, 8, 4, 5, 6);
    Checks.due("setLimb", x.setLimb(1, 4, 7), 5);
    Checks.due("setLimb", x.setLimb(2, 5, 8), 6);
    x.release(0);
    Checks.due("behind the highest", x.alloc(5), 0);
    Checks.due("place", x.look(0, 2), 15);
    Checks.due("no slide", x.about(2), 0);
    x.release(0);
    Checks.due("slid together", x.alloc(9), 0);
    Checks.due("one slide", x.about(2), 1);
    Checks.due("place of 1", x.look(1, 2), 0);
    Checks.due("place of 2", x.look(2, 2), 5);
    Checks.due("place of 0", x.look(0, 2), 11);
    Checks.due("limb of 1", x.limb(1, 4), 7);
    Checks.due("limb of 2", x.limb(2, 5), 8);
    Checks.due("cell 4", x.cell(4), 7);
    Checks.due("cell 10", x.cell(10), 8);
    Checks.due("a new run is 0", x.look(0, 0), 0);
    Checks.due("no room", x.alloc(1), NO_ROOM);
    Checks.due("slid though none moved", x.about(2), 2);
    NumberArena y = new NumberArena(2, 16, 8);
    Checks.due("more than all cells", y.alloc(17), NO_ROOM);
    Checks.due("slid without any run", y.about(2), 1);
    Checks.due("all cells", y.alloc(16), 0);
  }

  private static void release() {
    NumberArena x = Checks.arena(40, 8, 2, 3, 4);
    x.setLimb(1, 2, 5);
    Checks.due("release(1)", x.release(1), 0);
    Checks.due("release(1) again", x.release(1), BAD_HANDLE);
    Checks.due("release(-1)", x.release(-1), BAD_HANDLE);
    Checks.due("release(24)", x.release(24), BAD_HANDLE);
    Checks.due("its cells are in no run", x.cell(4), NONE);
    Checks.due("cells of all runs", x.about(0), 6);
    Checks.due("the end stays", x.about(1), 9);
    Checks.due("live", x.about(3), 2);
    Checks.due("the least free handle", x.alloc(3), 1);
    Checks.due("is 0 again", x.look(1, 0), 0);
    Checks.due("limb", x.limb(1, 2), 0);
    Checks.due("at the end", x.look(1, 2), 9);
  }

  private static void resize() {
    NumberArena x = Checks.arena(20, 8, 4, 3);
    x.setLimb(0, 1, 77);
    x.setLimb(0, 0, 66);
    Checks.due("resize(0, 1) below the length", x.resize(0, 1), BAD_ARG);
    Checks.due("resize(0, 0)", x.resize(0, 0), BAD_ARG);
    Checks.due("resize(0, 65)", x.resize(0, 65), BAD_ARG);
    Checks.due("resize(2, 0)", x.resize(2, 0), BAD_HANDLE);
    Checks.due("resize to the same", x.resize(0, 4), 0);
    Checks.due("takes nothing", x.look(0, 2), 0);
    Checks.due("resize to less", x.resize(0, 2), 0);
    Checks.due("is taken, too", x.look(0, 2), 7);
    Checks.due("room", x.look(0, 1), 2);
    Checks.due("length", x.look(0, 0), 2);
    Checks.due("limb 0", x.limb(0, 0), 66);
    Checks.due("limb 1", x.limb(0, 1), 77);
    Checks.due("cells", x.about(0), 5);
    Checks.due("resize to more, the old run being there", x.resize(0, 15), 0);
    Checks.due("slid", x.about(2), 1);
    Checks.due("behind the old one, which goes then", x.look(0, 2), 5);
    Checks.due("the other came down", x.look(1, 2), 0);
    Checks.due("limb 1", x.limb(0, 1), 77);
    Checks.due("resize that has no room", x.resize(0, 3), NO_ROOM);
    Checks.due("slid again", x.about(2), 2);
    Checks.due("room as it was", x.look(0, 1), 15);
    Checks.due("limb 0 as it was", x.limb(0, 0), 66);
    Checks.due("place", x.look(0, 2), 3);
    Checks.due("now there is", x.resize(0, 2), 0);
    Checks.due("place", x.look(0, 2), 18);
    x.setLimb(0, 1, 0);
    x.setLimb(0, 0, 0);
    Checks.due("0 needs one cell", x.resize(0, 0), BAD_ARG);
    Checks.due("one cell", x.resize(0, 1), 0);
  }

  private static void setLimb() {
    NumberArena x = Checks.arena(20, 8, 4, 4);
    Checks.due("setLimb(0, 2, 5)", x.setLimb(0, 2, 5), 3);
    Checks.due("setLimb(0, 0, 32767)", x.setLimb(0, 0, 32767), 3);
    Checks.due("setLimb(0, 3, 0)", x.setLimb(0, 3, 0), 3);
    Checks.due("setLimb(0, 3, 1)", x.setLimb(0, 3, 1), 4);
    Checks.due("setLimb(0, 3, 0)", x.setLimb(0, 3, 0), 3);
    Checks.due("setLimb(0, 2, 0)", x.setLimb(0, 2, 0), 1);
    Checks.due("setLimb(0, 0, 0)", x.setLimb(0, 0, 0), 0);
    Checks.due("setLimb(0, 4, 1)", x.setLimb(0, 4, 1), BAD_ARG);
    Checks.due("setLimb(0, -1, 1)", x.setLimb(0, -1, 1), BAD_ARG);
    Checks.due("setLimb(0, 0, 32768)", x.setLimb(0, 0, 32768), BAD_ARG);
    Checks.due("setLimb(0, 0, -1)", x.setLimb(0, 0, -1), BAD_ARG);
    Checks.due("setLimb(0, MIN, 1)", x.setLimb(0, Integer.MIN_VALUE, 1), BAD_ARG);
    Checks.due("setLimb(2, 0, -1)", x.setLimb(2, 0, -1), BAD_HANDLE);
    Checks.due("nothing came beside it", x.cell(4), 0);
  }

  private static void limb() {
    NumberArena x = Checks.arena(20, 8, 4, 4);
    x.setLimb(0, 1, 5);
    x.setLimb(1, 0, 9);
    Checks.due("limb(0, 0)", x.limb(0, 0), 0);
    Checks.due("limb(0, 1)", x.limb(0, 1), 5);
    Checks.due("limb(0, 2)", x.limb(0, 2), 0);
    Checks.due("limb(0, 4), the next run's cell", x.limb(0, 4), 0);
    Checks.due("limb(0, MAX)", x.limb(0, Integer.MAX_VALUE), 0);
    Checks.due("limb(0, -1)", x.limb(0, -1), NONE);
    Checks.due("limb(0, MIN)", x.limb(0, Integer.MIN_VALUE), NONE);
    Checks.due("limb(2, -1)", x.limb(2, -1), BAD_HANDLE);
  }

  private static void look() {
    NumberArena x = Checks.arena(90, 8, 3, 64);
    x.setLimb(1, 63, 32767);
    Checks.due("bits", x.look(1, 3), 960);
    Checks.due("length", x.look(1, 0), 64);
    Checks.due("room", x.look(1, 1), 64);
    Checks.due("place", x.look(1, 2), 3);
    Checks.due("bits of 0", x.look(0, 3), 0);
    x.setLimb(0, 0, 1);
    Checks.due("bits of 1", x.look(0, 3), 1);
    x.setLimb(0, 1, 1);
    Checks.due("bits of 32769", x.look(0, 3), 16);
    Checks.due("look(0, 4)", x.look(0, 4), NONE);
    Checks.due("look(0, -1)", x.look(0, -1), NONE);
    Checks.due("look(5, 4)", x.look(5, 4), BAD_HANDLE);
  }

  private static void about() {
    NumberArena x = Checks.arena(40, 11, 3, 4, 5);
    x.release(0);
    x.word(1);
    Checks.tape(x, "12345");
    int[] due = {9, 12, 0, 2, 1, 24, 40, 11, 5, NONE};
    for (int what = 0; what < due.length; what++) {
      Checks.due("about(" + what + ")", x.about(what), due[what]);
    }
    Checks.due("about(-1)", x.about(-1), NONE);
    Checks.due("about(MAX)", x.about(Integer.MAX_VALUE), NONE);
    x.release(2);
    Checks.due("the end of the highest one", x.about(1), 7);
    x.release(1);
    Checks.due("without any", x.about(1), 0);
  }

  private static void cell() {
    NumberArena x = Checks.arena(16, 8, 3, 4);
    x.setLimb(0, 1, 5);
    x.setLimb(1, 0, 6);
    int[] due = {0, 5, 0, 6, 0, 0, 0, NONE, NONE};
    for (int i = 0; i < due.length; i++) {
      Checks.due("cell(" + i + ")", x.cell(i), due[i]);
    }
    for (int i : new int[] {-1, 15, 16, Integer.MAX_VALUE, Integer.MIN_VALUE}) {
      Checks.due("cell(" + i + ")", x.cell(i), NONE);
    }
  }

  private static void deadHandles() {
    NumberArena x = Checks.arena(16, 8, 3);
    for (int h : new int[] {-1, 1, 23, 24, 30, Integer.MAX_VALUE, Integer.MIN_VALUE}) {
      Checks.due("release(" + h + ")", x.release(h), BAD_HANDLE);
      Checks.due("resize(" + h + ", 1)", x.resize(h, 1), BAD_HANDLE);
      Checks.due("setLimb(" + h + ", 0, 0)", x.setLimb(h, 0, 0), BAD_HANDLE);
      Checks.due("limb(" + h + ", 0)", x.limb(h, 0), BAD_HANDLE);
      Checks.due("look(" + h + ", 0)", x.look(h, 0), BAD_HANDLE);
    }
  }
}
