/** Each number that the document bounds: the least and the greatest one that is taken, and those just beyond them. */
public final class BoundTest {
  private static final Check CHECK = new Check();
  private static final Class<?> ARGUMENT = IllegalArgumentException.class;
  private static final Class<?> PLACE = IndexOutOfBoundsException.class;

  /** A call with the number that is tried; all else in it is right. */
  interface Trial {
    long with(SiltStore x, int number);
  }

  public static void main(String[] args) {
    promises2And5();
    promise3Way();
    promise4Filter();
    promises6And7();
    promise10Pack();
    promise13Release();
    promises14And15();
    promise16Next();
    promise17CountAt();
    promise18Sum();
    promises24And29();
    promise25Size();
    promise26Entry();
    promise27BitsSet();
    promise28MayHave();
    promise32Counted();
    promises34To36();
    CHECK.end();
  }

  /**
   * KEY 0 HAS 9999, KEY 9999 HAS 0. On the level 0 are two RUNS, of two ENTRIES and one, on the level 1 is one of
   * three, on the level 2 none, on the level 3 one of two; in the HAND is one ENTRY. The SNAPSHOTS 1 and 2 are there.
   */
  private static SiltStore example() {
    SiltStore x = Fill.store(0, 3, 4);
    x.snap();
    x.put(0, 9999);
    x.put(9999, 0);
    x.snap();
    x.flush();
    x.pack(0);
    Fill.run(x, 5);
    Fill.run(x, 6);
    Fill.run(x, 7);
    x.snap();
    x.release(0);
    Fill.run(x, 8);
    Fill.run(x, 8, 9);
    x.put(10, 1);
    return x;
  }

  /** Tries a number up to both its edges; what is due there tells that it was really taken. */
  private static void bound(String call, int least, int greatest, Class<?> kind, Trial trial, long... due) {
    CHECK.due(call + ", least: " + least, trial.with(example(), least), due[0]);
    CHECK.due(call + ", greatest: " + greatest, trial.with(example(), greatest), due[1]);
    for (int number : new int[] {least - 1, greatest + 1, Integer.MIN_VALUE, Integer.MAX_VALUE}) {
      SiltStore x = example();
      CHECK.refused(x, call + ": " + number, kind, () -> trial.with(x, number));
    }
  }

  private static void promises2And5() {
    bound("setRoom(room)", 1, 16, ARGUMENT, (x, n) -> x.setRoom(n) * 100 + x.setRoom(9), 1601, 1616);
    bound("setEvery(every)", 0, 20, ARGUMENT, (x, n) -> x.setEvery(n) * 100 + x.setEvery(9), 100, 120);
  }

  private static void promise3Way() {
    Class<?> state = IllegalStateException.class;
    CHECK.refused(example(), "setWay with RUNS", state, () -> example().setWay(0, 3, 4));
    way("setWay(way, 2, 1)", 0, 1, (x, n) -> x.setWay(n, 2, 1));
    way("setWay(0, fan, 1)", 2, 4, (x, n) -> x.setWay(0, n, 1));
    way("setWay(1, 2, piece)", 1, 20, (x, n) -> x.setWay(1, 2, n));
  }

  /** The same as bound(), without a RUN. */
  private static void way(String call, int least, int greatest, Trial trial) {
    CHECK.due(call + ", least: " + least, trial.with(new SiltStore(), least), 0);
    CHECK.due(call + ", greatest: " + greatest, trial.with(new SiltStore(), greatest), 0);
    for (int number : new int[] {least - 1, greatest + 1, Integer.MIN_VALUE, Integer.MAX_VALUE}) {
      SiltStore x = new SiltStore();
      CHECK.refused(x, call + ": " + number, ARGUMENT, () -> trial.with(x, number));
    }
  }

  private static void promise4Filter() {
    bound("setFilter(bits, 1)", 4, 64, ARGUMENT, (x, n) -> x.setFilter(n, 1) * 100 + x.setFilter(9, 1), 1604, 1664);
    bound("setFilter(16, hashes)", 1, 3, ARGUMENT, (x, n) -> x.setFilter(16, n), 16, 16);
    bound("setFilter(0, hashes)", 1, 3, ARGUMENT, (x, n) -> x.setFilter(0, n), 16, 16);
    // BITS is 0 as well, but neither what is below it nor what lies between 0 and 4.
    bound("setFilter(0, 1)", 0, 0, ARGUMENT, (x, n) -> x.setFilter(n, 1) * 100 + x.setFilter(9, 1), 1600, 1600);
    for (int bits = 1; bits < 4; bits++) {
      SiltStore x = example();
      int number = bits;
      CHECK.refused(x, "setFilter(" + bits + ", 1)", ARGUMENT, () -> x.setFilter(number, 1));
    }
  }

  private static void promises6And7() {
    bound("put(key, 1)", 0, 9999, ARGUMENT, (x, n) -> x.put(n, 1) * 10 + x.get(n), 101, 101);
    bound("put(1, value)", 0, 9999, ARGUMENT, (x, n) -> x.put(1, n) * 10000 + x.get(1), 100000, 109999);
    bound("remove(key)", 0, 9999, ARGUMENT, (x, n) -> x.remove(n) * 10 + x.get(n), 99, 99);
  }

  private static void promise10Pack() {
    bound("pack(level)", 0, 3, PLACE, (x, n) -> x.pack(n) * 100 + x.size(3, 0), 107, 2);
  }

  private static void promise13Release() {
    bound("release(snapshot)", 1, 2, PLACE, (x, n) -> x.release(n), 1, 1);
  }

  private static void promises14And15() {
    bound("get(key)", 0, 9999, ARGUMENT, (x, n) -> x.get(n), 9999, 0);
    bound("getAt(1, key)", 0, 9999, ARGUMENT, (x, n) -> x.getAt(1, n), 9999, 0);
    bound("getAt(snapshot, 5)", 1, 2, PLACE, (x, n) -> x.getAt(n, 5), -1, 1);
  }

  private static void promise16Next() {
    bound("next(key)", -1, 9999, ARGUMENT, (x, n) -> x.next(n), 0, -1);
  }

  private static void promise17CountAt() {
    bound("countAt(snapshot, 0, 9999)", 1, 2, PLACE, (x, n) -> x.countAt(n, 0, 9999), 2, 5);
    bound("countAt(2, from, 9999)", 0, 9999, ARGUMENT, (x, n) -> x.countAt(2, n, 9999), 5, 1);
    bound("countAt(2, 0, to)", 0, 9999, ARGUMENT, (x, n) -> x.countAt(2, 0, n), 1, 5);
    // A range has one KEY at least: to is not less than from.
    bound("countAt(2, 6, to)", 6, 9999, ARGUMENT, (x, n) -> x.countAt(2, 6, n), 1, 3);
    bound("countAt(2, from, 6)", 0, 6, ARGUMENT, (x, n) -> x.countAt(2, n, 6), 3, 1);
  }

  private static void promise18Sum() {
    bound("sum(from, 9999)", 0, 9999, ARGUMENT, (x, n) -> x.sum(n, 9999), 10005, 0);
    bound("sum(0, to)", 0, 9999, ARGUMENT, (x, n) -> x.sum(0, n), 9999, 10005);
    bound("sum(6, to)", 6, 9999, ARGUMENT, (x, n) -> x.sum(6, n), 1, 5);
    bound("sum(from, 6)", 0, 6, ARGUMENT, (x, n) -> x.sum(n, 6), 10001, 1);
  }

  private static void promises24And29() {
    bound("runs(level)", 0, 3, PLACE, (x, n) -> x.runs(n), 2, 1);
    bound("mark(level)", 0, 3, PLACE, (x, n) -> x.mark(n), -1, -1);
  }

  /** No RUN is on the level 2, so that is just beyond the levels of the RUN 0 from both sides. */
  private static void promise25Size() {
    bound("size(level, 0)", 0, 1, PLACE, (x, n) -> x.size(n, 0), 2, 3);
    bound("size(level, 0)", 3, 3, PLACE, (x, n) -> x.size(n, 0), 2, 2);
    bound("size(0, run)", 0, 1, PLACE, (x, n) -> x.size(0, n), 2, 1);
    bound("size(3, run)", 0, 0, PLACE, (x, n) -> x.size(3, n), 2, 2);
  }

  private static void promise26Entry() {
    bound("entry(level, 0, 0, 0)", 0, 1, PLACE, (x, n) -> x.entry(n, 0, 0, 0), 8, 5);
    bound("entry(level, 0, 0, 0)", 3, 3, PLACE, (x, n) -> x.entry(n, 0, 0, 0), 0, 0);
    bound("entry(0, run, 0, 1)", 0, 1, PLACE, (x, n) -> x.entry(0, n, 0, 1), 7, 6);
    bound("entry(0, 0, place, 0)", 0, 1, PLACE, (x, n) -> x.entry(0, 0, n, 0), 8, 9);
    bound("entry(3, 0, place, 0)", 0, 1, PLACE, (x, n) -> x.entry(3, 0, n, 0), 0, 9999);
    bound("entry(3, 0, 1, what)", 0, 2, ARGUMENT, (x, n) -> x.entry(3, 0, 1, n), 9999, 0);
  }

  private static void promise27BitsSet() {
    bound("bitsSet(level, 0)", 0, 1, PLACE, (x, n) -> x.bitsSet(n, 0), 4, 5);
    bound("bitsSet(level, 0)", 3, 3, PLACE, (x, n) -> x.bitsSet(n, 0), 4, 4);
    bound("bitsSet(0, run)", 0, 1, PLACE, (x, n) -> x.bitsSet(0, n), 4, 2);
  }

  private static void promise28MayHave() {
    bound("mayHave(level, 0, 5)", 0, 1, PLACE, (x, n) -> x.mayHave(n, 0, 5) ? 1 : 0, 0, 1);
    bound("mayHave(level, 0, 0)", 3, 3, PLACE, (x, n) -> x.mayHave(n, 0, 0) ? 1 : 0, 1, 1);
    bound("mayHave(0, run, 9)", 0, 1, PLACE, (x, n) -> x.mayHave(0, n, 9) ? 1 : 0, 1, 0);
    bound("mayHave(3, 0, key)", 0, 9999, ARGUMENT, (x, n) -> x.mayHave(3, 0, n) ? 1 : 0, 1, 1);
  }

  private static void promise32Counted() {
    bound("counted(what)", 0, 5, ARGUMENT, (x, n) -> x.counted(n), 0, 13);
  }

  private static void promises34To36() {
    bound("cost(key)", 0, 9999, ARGUMENT, (x, n) -> x.cost(n), 1, 1);
    bound("wouldSave(level)", 0, 3, PLACE, (x, n) -> x.wouldSave(n), 1, 0);
    bound("getSafe(key)", 0, 9999, ARGUMENT, (x, n) -> x.getSafe(n), 9999, 0);
  }
}
