/** Promises 20 to 31: what is where. */
public final class WhereTest {
  private static final Check CHECK = new Check();
  private static final int[] NO_LEVELS = {-1, 4, Integer.MIN_VALUE, Integer.MAX_VALUE};
  private static final int[] NO_KEYS = {-1, 10000, Integer.MIN_VALUE, Integer.MAX_VALUE};

  public static void main(String[] args) {
    promises20To23();
    promise24Runs();
    promise25Size();
    promise26Entry();
    promise27BitsSet();
    promise28MayHave();
    promise29Mark();
    promises30And31();
    CHECK.end();
  }

  /** On the level 0 two RUNS, of three and two ENTRIES, on the level 1 one of three. */
  private static SiltStore twoLevels() {
    SiltStore x = new SiltStore();
    x.setWay(0, 3, 4);
    x.setRoom(16);
    for (int key = 1; key <= 3; key++) {
      x.put(key, key * 10);
      x.flush();
    }
    x.put(5, 50);
    x.remove(9999);
    x.flush();
    x.put(0, 1);
    x.snap();
    x.remove(0);
    x.put(7, 70);
    x.flush();
    return x;
  }

  private static void promises20To23() {
    SiltStore x = new SiltStore();
    x.setRoom(16);
    x.setEvery(4);
    for (int i = 1; i <= 6; i++) {
      x.put(i % 2, i);
    }
    CHECK.due("hand", x.hand(), 2);
    CHECK.due("log", x.log(), 6);
    CHECK.due("unsafe", x.unsafe(), 2);
    CHECK.due("snapshots", x.snapshots(), 0);
    x.snap();
    x.remove(0);
    CHECK.due("hand", x.hand(), 3);
    CHECK.due("log", x.log(), 7);
    CHECK.due("unsafe", x.unsafe(), 3);
    CHECK.due("snapshots", x.snapshots(), 1);
    x.flush();
    CHECK.due("hand", x.hand(), 0);
    CHECK.due("log", x.log(), 0);
    CHECK.due("unsafe", x.unsafe(), 0);
    CHECK.due("snapshots", x.snapshots(), 1);
  }

  private static void promise24Runs() {
    SiltStore x = twoLevels();
    CHECK.due("runs(0)", x.runs(0), 2);
    CHECK.due("runs(1)", x.runs(1), 1);
    CHECK.due("runs(2)", x.runs(2), 0);
    CHECK.due("runs(3)", x.runs(3), 0);
    for (int level : NO_LEVELS) {
      CHECK.badPlace(x, "runs(" + level + ")", () -> x.runs(level));
    }
  }

  private static void promise25Size() {
    SiltStore x = twoLevels();
    CHECK.due("size(0, 0)", x.size(0, 0), 3);
    CHECK.due("size(0, 1)", x.size(0, 1), 2);
    CHECK.due("size(1, 0)", x.size(1, 0), 3);
    for (int level : NO_LEVELS) {
      CHECK.badPlace(x, "size(" + level + ", 0)", () -> x.size(level, 0));
    }
    for (int run : new int[] {-1, 2, Integer.MIN_VALUE, Integer.MAX_VALUE}) {
      CHECK.badPlace(x, "size(0, " + run + ")", () -> x.size(0, run));
    }
    CHECK.badPlace(x, "size(1, 1)", () -> x.size(1, 1));
    CHECK.badPlace(x, "size(2, 0)", () -> x.size(2, 0));
  }

  private static void promise26Entry() {
    SiltStore x = twoLevels();
    int[][] due = {{0, 7, -1}, {0, 6, 1}, {7, 8, 70}};
    for (int place = 0; place < 3; place++) {
      for (int what = 0; what < 3; what++) {
        CHECK.due("entry(0, 0, " + place + ", " + what + ")", x.entry(0, 0, place, what), due[place][what]);
      }
    }
    CHECK.due("entry(0, 1, 1, 0)", x.entry(0, 1, 1, 0), 9999);
    CHECK.due("entry(0, 1, 1, 2)", x.entry(0, 1, 1, 2), -1);
    CHECK.due("entry(1, 0, 0, 2)", x.entry(1, 0, 0, 2), 10);
    CHECK.badPlace(x, "entry(4, 0, 0, 3)", () -> x.entry(4, 0, 0, 3));
    CHECK.badPlace(x, "entry(-1, 0, 0, 0)", () -> x.entry(-1, 0, 0, 0));
    CHECK.badPlace(x, "entry(0, 2, 0, 3)", () -> x.entry(0, 2, 0, 3));
    CHECK.badPlace(x, "entry(0, -1, 0, 0)", () -> x.entry(0, -1, 0, 0));
    CHECK.badPlace(x, "entry(0, 0, 3, 3)", () -> x.entry(0, 0, 3, 3));
    CHECK.badPlace(x, "entry(0, 1, 2, 0)", () -> x.entry(0, 1, 2, 0));
    for (int far : new int[] {-1, Integer.MIN_VALUE, Integer.MAX_VALUE}) {
      CHECK.badPlace(x, "entry(0, 0, " + far + ", 0)", () -> x.entry(0, 0, far, 0));
      CHECK.badArgument(x, "entry(0, 0, 0, " + far + ")", () -> x.entry(0, 0, 0, far));
    }
    CHECK.badArgument(x, "entry(0, 0, 2, 3)", () -> x.entry(0, 0, 2, 3));
  }

  private static void promise27BitsSet() {
    SiltStore x = twoLevels();
    // In 16 bits, 2 hashes: 0 has 7, 14; 7 has 12, 1.
    CHECK.due("bitsSet(0, 0)", x.bitsSet(0, 0), 4);
    // 5 has 6, 7; 9999 has 4 and 9.
    CHECK.due("bitsSet(0, 1)", x.bitsSet(0, 1), 4);
    // 1 has 10, 3; 2 has 13, 8; 3 has 0, 13.
    CHECK.due("bitsSet(1, 0)", x.bitsSet(1, 0), 5);
    x.setFilter(0, 1);
    x.pack(0);
    CHECK.due("bitsSet without a filter", x.bitsSet(3, 0), -1);
    // All bits but 29 of 64, the highest one among them: 3 * KEY + 7 goes through all, 29 has no KEY put.
    SiltStore y = new SiltStore();
    y.setWay(0, 4, 4);
    y.setRoom(16);
    y.setFilter(64, 1);
    for (int key = 0; key < 64; key++) {
      if ((3 * key + 7) % 64 != 29) {
        y.put(key, 1);
      }
    }
    y.flush();
    y.pack(0);
    CHECK.due("bitsSet of 63 keys", y.bitsSet(3, 0), 63);
    for (int key = 64; key < 128; key++) {
      CHECK.due("mayHave(3, 0, " + key + ")", y.mayHave(3, 0, key), (3 * key + 7) % 64 != 29);
    }
    for (int level : NO_LEVELS) {
      CHECK.badPlace(x, "bitsSet(" + level + ", 0)", () -> x.bitsSet(level, 0));
    }
    CHECK.badPlace(x, "bitsSet(0, 0)", () -> x.bitsSet(0, 0));
    CHECK.badPlace(x, "bitsSet(3, 1)", () -> x.bitsSet(3, 1));
    CHECK.badPlace(x, "bitsSet(3, -1)", () -> x.bitsSet(3, -1));
  }

  private static void promise28MayHave() {
    SiltStore x = twoLevels();
    CHECK.due("mayHave(0, 0, 0)", x.mayHave(0, 0, 0), true);
    CHECK.due("mayHave(0, 0, 7)", x.mayHave(0, 0, 7), true);
    // 1 has 10 and 3, none of 7, 14, 12, 1; 3 has 0, 13; 5 has 6 and 7, of which 6 is not set.
    CHECK.due("mayHave(0, 0, 1)", x.mayHave(0, 0, 1), false);
    CHECK.due("mayHave(0, 0, 5)", x.mayHave(0, 0, 5), false);
    // The range does not count: 16 has the bits of 0, and is in no run.
    CHECK.due("mayHave(0, 0, 16)", x.mayHave(0, 0, 16), true);
    CHECK.due("mayHave(0, 0, 9999)", x.mayHave(0, 0, 9999), false);
    CHECK.due("mayHave(0, 1, 9999)", x.mayHave(0, 1, 9999), true);
    for (int level : NO_LEVELS) {
      CHECK.badPlace(x, "mayHave(" + level + ", 0, 1)", () -> x.mayHave(level, 0, 1));
      CHECK.badPlace(x, "mayHave(" + level + ", 0, -1)", () -> x.mayHave(level, 0, -1));
    }
    CHECK.badPlace(x, "mayHave(0, 2, 1)", () -> x.mayHave(0, 2, 1));
    CHECK.badPlace(x, "mayHave(0, -1, 10000)", () -> x.mayHave(0, -1, 10000));
    for (int key : NO_KEYS) {
      CHECK.badArgument(x, "mayHave(0, 0, " + key + ")", () -> x.mayHave(0, 0, key));
    }
    x.setFilter(0, 3);
    x.pack(0);
    CHECK.due("mayHave without a filter", x.mayHave(3, 0, 4321), true);
    CHECK.badArgument(x, "mayHave(3, 0, 10000)", () -> x.mayHave(3, 0, 10000));
    CHECK.dueCounted(x, 0, 0, 0, 8, 2, 3 + 3 + 2 + 3 + 7);
  }

  private static void promise29Mark() {
    SiltStore x = new SiltStore();
    x.setWay(1, 2, 1);
    x.setRoom(16);
    x.put(10, 1);
    x.put(20, 1);
    x.flush();
    x.put(30, 1);
    x.flush();
    CHECK.due("mark(0)", x.mark(0), -1);
    CHECK.due("mark(1)", x.mark(1), 10);
    CHECK.due("mark(2)", x.mark(2), -1);
    CHECK.due("mark(3)", x.mark(3), -1);
    for (int level : NO_LEVELS) {
      CHECK.badPlace(x, "mark(" + level + ")", () -> x.mark(level));
    }
    x.pack(0);
    CHECK.due("pack leaves the mark", x.mark(1), 10);
    x.remove(10);
    x.remove(20);
    x.remove(30);
    x.flush();
    x.pack(0);
    x.crash();
    CHECK.due("setWay", x.setWay(0, 2, 2), 1);
    CHECK.due("setWay leaves the mark", x.mark(1), 10);
  }

  private static void promises30And31() {
    SiltStore x = twoLevels();
    CHECK.due("entries", x.entries(), 8);
    CHECK.due("stones", x.stones(), 2);
    x.remove(1);
    CHECK.due("entries without the hand", x.entries(), 8);
    CHECK.due("stones without the hand", x.stones(), 2);
    // The SNAPSHOT keeps 0@6, so the stone over it stays; so does that of 1, for a run behind; that of 9999 goes.
    x.flush();
    CHECK.due("runs(1)", x.runs(1), 2);
    CHECK.due("entries", x.entries(), 8);
    CHECK.due("stones", x.stones(), 2);
    CHECK.due("pack", x.pack(0), 0);
    CHECK.dueRuns(x, 3, "[0@7- 0@6=1 1@9- 1@1=10 2@2=20 3@3=30 5@4=50 7@8=70]");
    CHECK.due("stones", x.stones(), 2);
    x.release(0);
    CHECK.due("pack", x.pack(0), 4);
    CHECK.due("entries", x.entries(), 4);
    CHECK.due("stones", x.stones(), 0);
  }
}
