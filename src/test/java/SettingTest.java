/** Promises 1 to 5: a new object, and what is set. */
public final class SettingTest {
  private static final Check CHECK = new Check();
  private static final int[] FAR = {Integer.MIN_VALUE, Integer.MAX_VALUE};

  public static void main(String[] args) {
    promise1NewObject();
    promise1Defaults();
    promise2SetRoom();
    promise3SetWay();
    promise3SetWayWithRuns();
    promise4SetFilter();
    promise4FiltersOfRuns();
    promise4FiltersGoWithTheirRuns();
    promise5SetEvery();
    CHECK.end();
  }

  private static void promise1NewObject() {
    SiltStore x = new SiltStore();
    CHECK.due("hand", x.hand(), 0);
    CHECK.due("log", x.log(), 0);
    CHECK.due("unsafe", x.unsafe(), 0);
    CHECK.due("snapshots", x.snapshots(), 0);
    CHECK.due("keys", x.keys(), 0);
    CHECK.due("entries", x.entries(), 0);
    CHECK.due("stones", x.stones(), 0);
    CHECK.due("next", x.next(-1), -1);
    CHECK.due("get", x.get(0), -1);
    CHECK.due("getSafe", x.getSafe(9999), -1);
    CHECK.due("sum", x.sum(0, 9999), 0);
    CHECK.dueReal("amplification", x.amplification(), 0.0);
    for (int level = 0; level < 4; level++) {
      CHECK.due("runs", x.runs(level), 0);
      CHECK.due("mark", x.mark(level), -1);
    }
    CHECK.dueCounted(x, 0, 0, 0, 0, 0, 0);
  }

  private static void promise1Defaults() {
    SiltStore x = new SiltStore();
    CHECK.due("EVERY at first", x.setEvery(1), 1);
    CHECK.due("ROOM at first", x.setRoom(4), 4);
    CHECK.due("BITS at first", x.setFilter(16, 2), 16);
    CHECK.due("WAY at first", x.setWay(0, 2, 4), 0);
    x = new SiltStore();
    x.put(0, 1);
    x.put(1, 1);
    x.put(2, 1);
    CHECK.due("hand below ROOM 4", x.hand(), 3);
    x.put(3, 1);
    CHECK.due("hand at ROOM 4", x.hand(), 0);
    CHECK.due("runs", x.runs(0), 1);
    x.put(0, 2);
    x.flush();
    CHECK.due("runs at FAN 2", x.runs(0), 0);
    CHECK.due("runs at FAN 2", x.runs(1), 1);
    SiltStore y = new SiltStore();
    y.put(0, 1);
    y.flush();
    CHECK.due("bits at HASHES 2", y.bitsSet(0, 0), 2);
  }

  private static void promise2SetRoom() {
    SiltStore x = new SiltStore();
    CHECK.due("setRoom(16)", x.setRoom(16), 4);
    CHECK.due("setRoom(1)", x.setRoom(1), 16);
    CHECK.badArgument(x, "setRoom(0)", () -> x.setRoom(0));
    CHECK.badArgument(x, "setRoom(17)", () -> x.setRoom(17));
    for (int far : FAR) {
      CHECK.badArgument(x, "setRoom(far)", () -> x.setRoom(far));
    }
    CHECK.due("setRoom behind refused ones", x.setRoom(5), 1);
    x.put(1, 1);
    x.put(2, 2);
    x.put(3, 3);
    x.setRoom(2);
    CHECK.due("hand is not flushed by setRoom", x.hand(), 3);
    x.put(1, 4);
    CHECK.due("hand at the next write, over its room", x.hand(), 0);
    CHECK.dueRuns(x, 0, "[1@4=4 2@2=2 3@3=3]");
  }

  private static void promise3SetWay() {
    SiltStore x = new SiltStore();
    CHECK.due("setWay(1, 2, 1)", x.setWay(1, 2, 1), 0);
    CHECK.due("setWay(0, 4, 20)", x.setWay(0, 4, 20), 1);
    CHECK.badArgument(x, "setWay(-1, 2, 2)", () -> x.setWay(-1, 2, 2));
    CHECK.badArgument(x, "setWay(2, 2, 2)", () -> x.setWay(2, 2, 2));
    CHECK.badArgument(x, "setWay(1, 1, 2)", () -> x.setWay(1, 1, 2));
    CHECK.badArgument(x, "setWay(1, 5, 2)", () -> x.setWay(1, 5, 2));
    CHECK.badArgument(x, "setWay(1, 2, 0)", () -> x.setWay(1, 2, 0));
    CHECK.badArgument(x, "setWay(1, 2, 21)", () -> x.setWay(1, 2, 21));
    for (int far : FAR) {
      CHECK.badArgument(x, "setWay(far, 2, 2)", () -> x.setWay(far, 2, 2));
      CHECK.badArgument(x, "setWay(1, far, 2)", () -> x.setWay(1, far, 2));
      CHECK.badArgument(x, "setWay(1, 2, far)", () -> x.setWay(1, 2, far));
    }
    x.put(1, 1);
    CHECK.due("setWay with a hand, behind refused ones", x.setWay(0, 4, 2), 0);
    for (int i = 0; i < 3; i++) {
      x.put(1, 1);
      x.flush();
    }
    CHECK.due("runs below FAN 4", x.runs(0), 3);
    x.put(1, 1);
    x.flush();
    CHECK.due("runs at FAN 4", x.runs(0), 0);
  }

  private static void promise3SetWayWithRuns() {
    SiltStore x = new SiltStore();
    x.setWay(0, 3, 2);
    x.put(1, 1);
    x.flush();
    CHECK.badState(x, "setWay with a run", () -> x.setWay(1, 2, 2));
    CHECK.badArgument(x, "setWay(2, 2, 2) with a run", () -> x.setWay(2, 2, 2));
    CHECK.badArgument(x, "setWay(1, 1, 2) with a run", () -> x.setWay(1, 1, 2));
    CHECK.badArgument(x, "setWay(1, 2, 0) with a run", () -> x.setWay(1, 2, 0));
    x.remove(1);
    x.flush();
    CHECK.due("runs at FAN 3 still", x.runs(0), 2);
    x.pack(0);
    CHECK.due("entries", x.entries(), 0);
    CHECK.due("setWay without runs again", x.setWay(1, 2, 2), 0);
  }

  private static void promise4SetFilter() {
    SiltStore x = new SiltStore();
    CHECK.due("setFilter(0, 1)", x.setFilter(0, 1), 16);
    CHECK.due("setFilter(4, 3)", x.setFilter(4, 3), 0);
    CHECK.due("setFilter(64, 2)", x.setFilter(64, 2), 4);
    for (int bits : new int[] {-1, 1, 3, 65, Integer.MIN_VALUE, Integer.MAX_VALUE}) {
      CHECK.badArgument(x, "setFilter(" + bits + ", 1)", () -> x.setFilter(bits, 1));
    }
    for (int hashes : new int[] {-1, 0, 4, Integer.MIN_VALUE, Integer.MAX_VALUE}) {
      CHECK.badArgument(x, "setFilter(16, " + hashes + ")", () -> x.setFilter(16, hashes));
      CHECK.badArgument(x, "setFilter(0, " + hashes + ")", () -> x.setFilter(0, hashes));
    }
    CHECK.due("setFilter behind refused ones", x.setFilter(16, 1), 64);
  }

  private static void promise4FiltersOfRuns() {
    SiltStore x = new SiltStore();
    x.setWay(0, 4, 4);
    x.setFilter(64, 3);
    // 9999: 29997 + 7, 49995 + 14, 69993 + 21 are 52, 41, 62 in 64
    x.put(9999, 0);
    x.flush();
    x.setFilter(0, 3);
    x.put(9999, 0);
    x.flush();
    x.setFilter(4, 1);
    x.put(9999, 0);
    x.flush();
    CHECK.due("bits of a run of BITS 64", x.bitsSet(0, 2), 3);
    CHECK.due("bits of a run of BITS 0", x.bitsSet(0, 1), -1);
    CHECK.due("bits of a run of BITS 4, HASHES 1", x.bitsSet(0, 0), 1);
    x.setFilter(64, 3);
    CHECK.due("a run keeps its filter", x.bitsSet(0, 0), 1);
    x.pack(0);
    CHECK.due("a merged run has the filter of now", x.bitsSet(3, 0), 3);
  }

  private static void promise4FiltersGoWithTheirRuns() {
    SiltStore x = new SiltStore();
    x.setWay(0, 3, 4);
    x.setFilter(64, 1);
    for (int key = 1; key <= 3; key++) {
      x.put(key, 1);
      x.flush();
    }
    x.setFilter(0, 1);
    x.put(9, 1);
    x.flush();
    x.setFilter(32, 3);
    x.put(5, 1);
    x.flush();
    x.setFilter(16, 2);
    CHECK.due("bits of 5 in 32, thrice", x.bitsSet(0, 0), 3);
    CHECK.due("mayHave of 5 + 32", x.mayHave(0, 0, 37), true);
    CHECK.due("mayHave of 5 + 16", x.mayHave(0, 0, 21), false);
    CHECK.due("bits of 9", x.bitsSet(0, 1), -1);
    CHECK.due("mayHave without a filter", x.mayHave(0, 1, 21), true);
    filterOf1To3(x, 0);
    x.put(8, 1);
    x.flush();
    // In 16, twice: 5 has 6 and 7, 8 has 15 and 6, 9 has 2 and 11.
    CHECK.due("bits of 5, 8, 9", x.bitsSet(1, 0), 5);
    filterOf1To3(x, 1);
  }

  /** In 64, once: 1 has 10, 2 has 13, 3 has 16, 4 has 19, and 65 has that of 1. */
  private static void filterOf1To3(SiltStore x, int run) {
    CHECK.due("bits of 1 to 3", x.bitsSet(1, run), 3);
    CHECK.due("mayHave of 1", x.mayHave(1, run, 1), true);
    CHECK.due("mayHave of 65", x.mayHave(1, run, 65), true);
    CHECK.due("mayHave of 4", x.mayHave(1, run, 4), false);
  }

  private static void promise5SetEvery() {
    SiltStore x = new SiltStore();
    x.setRoom(16);
    CHECK.due("setEvery(20)", x.setEvery(20), 1);
    CHECK.due("setEvery(0)", x.setEvery(0), 20);
    for (int every : new int[] {-1, 21, Integer.MIN_VALUE, Integer.MAX_VALUE}) {
      CHECK.badArgument(x, "setEvery(" + every + ")", () -> x.setEvery(every));
    }
    for (int i = 0; i < 4; i++) {
      x.put(i, i);
    }
    CHECK.due("unsafe with EVERY 0", x.unsafe(), 4);
    CHECK.due("setEvery behind refused ones", x.setEvery(3), 0);
    CHECK.due("setEvery makes nothing safe", x.unsafe(), 4);
    x.put(1, 1);
    CHECK.due("unsafe at age 5", x.unsafe(), 5);
    x.put(1, 1);
    CHECK.due("unsafe at age 6", x.unsafe(), 0);
    x.put(1, 1);
    CHECK.due("unsafe at age 7", x.unsafe(), 1);
  }
}
