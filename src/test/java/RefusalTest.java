/**
 * "A method that throws an exception changes nothing. If several exceptions apply, the one that is named first is
 * thrown." What a refused call could have changed unseen (a setting, a SNAPSHOT's AGE, the LOG) shows in what comes
 * behind it: so each refused call is told again and again to one of two stores that else are told the same.
 */
public final class RefusalTest {
  private static final Check CHECK = new Check();
  private static final Class<?> ARGUMENT = IllegalArgumentException.class;
  private static final Class<?> PLACE = IndexOutOfBoundsException.class;
  private static final Class<?> STATE = IllegalStateException.class;
  private static final int STEPS = 120;

  /** A call that is refused in any state. */
  interface Refused {
    void on(SiltStore x);
  }

  public static void main(String[] args) {
    firstNamedIsThrown();
    promise3SetWay();
    promise12Snap();
    settings();
    writing();
    snapshots();
    reading();
    places();
    whatWouldBe();
    CHECK.end();
  }

  /** On the level 0 one RUN with one ENTRY; the SNAPSHOT 0 is there. */
  private static SiltStore small() {
    SiltStore x = new SiltStore();
    Fill.run(x, 5);
    x.snap();
    return x;
  }

  private static void firstNamedIsThrown() {
    SiltStore x = small();
    CHECK.refused(x, "setWay(2, 2, 4) with a RUN", ARGUMENT, () -> x.setWay(2, 2, 4));
    CHECK.refused(x, "setWay(0, 5, 4) with a RUN", ARGUMENT, () -> x.setWay(0, 5, 4));
    CHECK.refused(x, "setWay(0, 2, 21) with a RUN", ARGUMENT, () -> x.setWay(0, 2, 21));
    CHECK.refused(x, "setWay(0, 2, 4) with a RUN", STATE, () -> x.setWay(0, 2, 4));
    CHECK.refused(x, "getAt(1, 10000)", PLACE, () -> x.getAt(1, 10000));
    CHECK.refused(x, "getAt(0, 10000)", ARGUMENT, () -> x.getAt(0, 10000));
    CHECK.refused(x, "countAt(1, -1, 10000)", PLACE, () -> x.countAt(1, -1, 10000));
    CHECK.refused(x, "countAt(1, 6, 5)", PLACE, () -> x.countAt(1, 6, 5));
    CHECK.refused(x, "countAt(0, 6, 5)", ARGUMENT, () -> x.countAt(0, 6, 5));
    CHECK.refused(x, "entry(4, 0, 0, 3)", PLACE, () -> x.entry(4, 0, 0, 3));
    CHECK.refused(x, "entry(0, 1, 0, 3)", PLACE, () -> x.entry(0, 1, 0, 3));
    CHECK.refused(x, "entry(0, 0, 1, 3)", PLACE, () -> x.entry(0, 0, 1, 3));
    CHECK.refused(x, "entry(0, 0, 0, 3)", ARGUMENT, () -> x.entry(0, 0, 0, 3));
    CHECK.refused(x, "mayHave(4, 0, 10000)", PLACE, () -> x.mayHave(4, 0, 10000));
    CHECK.refused(x, "mayHave(0, 1, 10000)", PLACE, () -> x.mayHave(0, 1, 10000));
    CHECK.refused(x, "mayHave(0, 0, 10000)", ARGUMENT, () -> x.mayHave(0, 0, 10000));
  }

  /** A RUN on any one level is a RUN; ENTRIES in the HAND are none. */
  private static void promise3SetWay() {
    for (int level = 0; level < 4; level++) {
      SiltStore x = new SiltStore();
      for (int flush = 0; flush < 1 << level; flush++) {
        Fill.run(x, flush);
      }
      CHECK.due("runs(" + level + ")", x.runs(level), 1);
      CHECK.refused(x, "setWay with a RUN on the level " + level, STATE, () -> x.setWay(1, 4, 20));
    }
    SiltStore y = new SiltStore();
    y.put(1, 1);
    CHECK.due("setWay with a HAND alone", y.setWay(1, 4, 20), 0);
  }

  private static void promise12Snap() {
    SiltStore x = Fill.store(0, 2, 4);
    for (int number = 0; number < 4; number++) {
      x.put(1, number);
      x.snap();
    }
    x.put(1, 4);
    CHECK.refused(x, "a fifth snap", STATE, x::snap);
    CHECK.refused(x, "a sixth snap", STATE, x::snap);
    for (int number = 0; number < 4; number++) {
      CHECK.due("getAt(" + number + ", 1) behind refused ones", x.getAt(number, 1), number);
    }
    x.release(3);
    CHECK.due("a refused snap takes no number", x.snap(), 4);
    CHECK.due("getAt(4, 1)", x.getAt(4, 1), 4);
  }

  private static void settings() {
    without("setRoom(0)", ARGUMENT, x -> x.setRoom(0));
    without("setRoom(17)", ARGUMENT, x -> x.setRoom(17));
    without("setFilter(65, 3)", ARGUMENT, x -> x.setFilter(65, 3));
    without("setFilter(3, 1)", ARGUMENT, x -> x.setFilter(3, 1));
    without("setFilter(0, 4)", ARGUMENT, x -> x.setFilter(0, 4));
    without("setFilter(64, 0)", ARGUMENT, x -> x.setFilter(64, 0));
    without("setEvery(-1)", ARGUMENT, x -> x.setEvery(-1));
    without("setEvery(21)", ARGUMENT, x -> x.setEvery(21));
    without("setWay(2, 4, 1)", ARGUMENT, x -> x.setWay(2, 4, 1));
    without("setWay(1, 5, 1)", ARGUMENT, x -> x.setWay(1, 5, 1));
    without("setWay(1, 1, 20)", ARGUMENT, x -> x.setWay(1, 1, 20));
    without("setWay(1, 4, 21)", ARGUMENT, x -> x.setWay(1, 4, 21));
    without("setWay(0, 4, 0)", ARGUMENT, x -> x.setWay(0, 4, 0));
  }

  private static void writing() {
    without("put(-1, 1)", ARGUMENT, x -> x.put(-1, 1));
    without("put(10000, 1)", ARGUMENT, x -> x.put(10000, 1));
    without("put(1, -1)", ARGUMENT, x -> x.put(1, -1));
    without("put(1, 10000)", ARGUMENT, x -> x.put(1, 10000));
    without("remove(-1)", ARGUMENT, x -> x.remove(-1));
    without("remove(10000)", ARGUMENT, x -> x.remove(10000));
    without("pack(-1)", PLACE, x -> x.pack(-1));
    without("pack(4)", PLACE, x -> x.pack(4));
  }

  private static void snapshots() {
    without("release(-1)", PLACE, x -> x.release(-1));
    without("release(99)", PLACE, x -> x.release(99));
    without("getAt(99, 1)", PLACE, x -> x.getAt(99, 1));
    without("getAt(-1, 1)", PLACE, x -> x.getAt(-1, 1));
    without("countAt(99, 0, 9)", PLACE, x -> x.countAt(99, 0, 9));
    without("countAt(-1, 0, 9)", PLACE, x -> x.countAt(-1, 0, 9));
  }

  private static void reading() {
    without("get(-1)", ARGUMENT, x -> x.get(-1));
    without("get(10000)", ARGUMENT, x -> x.get(10000));
    without("next(-2)", ARGUMENT, x -> x.next(-2));
    without("next(10000)", ARGUMENT, x -> x.next(10000));
    without("sum(-1, 5)", ARGUMENT, x -> x.sum(-1, 5));
    without("sum(0, 10000)", ARGUMENT, x -> x.sum(0, 10000));
    without("sum(6, 5)", ARGUMENT, x -> x.sum(6, 5));
  }

  private static void places() {
    without("runs(4)", PLACE, x -> x.runs(4));
    without("size(0, 99)", PLACE, x -> x.size(0, 99));
    without("size(4, 0)", PLACE, x -> x.size(4, 0));
    without("entry(3, -1, 0, 0)", PLACE, x -> x.entry(3, -1, 0, 0));
    without("entry(-1, 0, 0, 0)", PLACE, x -> x.entry(-1, 0, 0, 0));
    without("bitsSet(1, -1)", PLACE, x -> x.bitsSet(1, -1));
    without("mayHave(0, -1, 5)", PLACE, x -> x.mayHave(0, -1, 5));
    without("mark(4)", PLACE, x -> x.mark(4));
    without("mark(-1)", PLACE, x -> x.mark(-1));
  }

  private static void whatWouldBe() {
    without("counted(6)", ARGUMENT, x -> x.counted(6));
    without("counted(-1)", ARGUMENT, x -> x.counted(-1));
    without("cost(10000)", ARGUMENT, x -> x.cost(10000));
    without("wouldSave(4)", PLACE, x -> x.wouldSave(4));
    without("wouldSave(-1)", PLACE, x -> x.wouldSave(-1));
    without("getSafe(-1)", ARGUMENT, x -> x.getSafe(-1));
  }

  private static void without(String call, Class<?> kind, Refused refused) {
    for (int way = 0; way < 2; way++) {
      SiltStore x = new SiltStore();
      SiltStore twin = new SiltStore();
      CHECK.thrown(call + " on an empty store", kind, () -> refused.on(x));
      CHECK.due("setWay behind " + call, x.setWay(way, 3, 2), twin.setWay(way, 3, 2));
      for (int i = 0; i < STEPS; i++) {
        CHECK.thrown(call, kind, () -> refused.on(x));
        CHECK.due("step " + i + " behind " + call, step(x, i), step(twin, i));
      }
      CHECK.due("digest behind " + call, x.digest(), twin.digest());
      CHECK.due("EVERY behind " + call, x.setEvery(1), twin.setEvery(1));
      CHECK.due("ROOM behind " + call, x.setRoom(1), twin.setRoom(1));
      CHECK.due("BITS behind " + call, x.setFilter(0, 1), twin.setFilter(0, 1));
    }
  }

  /** Writes, reads and snapshots, with all settings as they are at first for a while and others then. */
  private static long step(SiltStore x, int i) {
    switch (i % 10) {
      case 0: return i == 60 ? x.setRoom(6) : i == 80 ? x.setEvery(3) : i == 90 ? x.setFilter(24, 1) : x.sync();
      case 1: return i % 20 == 1 ? x.snap() : x.release(i / 20);
      case 2: return x.remove(i * 7 % 23);
      case 3: return i % 20 == 3 ? x.getAt(i / 20, i % 23) : x.get(i % 23);
      case 4: return i == 54 || i == 114 ? x.crash() : x.getSafe(i % 23);
      case 5: return i == 75 ? x.pack(1) : x.digest();
      default: return x.put(i * 5 % 23, i);
    }
  }
}
