/** What has nothing in it: an empty store, an empty HAND or LOG, and a MERGING of which nothing is left. */
public final class EmptyTest {
  private static final Check CHECK = new Check();

  public static void main(String[] args) {
    newStoreIsEmpty();
    packedToNothingIsEmpty();
    crashedToNothingIsEmpty();
    nothingIsThereForAnEarlySnapshot();
    callsOfNothingChangeNothing();
    way0MergingLeavesNothing();
    mergingOfTheEdgeKeysLeavesNothing();
    way0LastLevelLeavesNothing();
    way1Level0LeavesNothing();
    way1Level1LeavesNothing();
    way1Level2LeavesNothing();
    packLeavesNothing();
    CHECK.end();
  }

  /** All that a call answers where there is no ENTRY at all, but for what was COUNTED. */
  private static void dueEmpty(SiltStore x) {
    CHECK.due("hand()", x.hand(), 0);
    CHECK.due("log()", x.log(), 0);
    CHECK.due("unsafe()", x.unsafe(), 0);
    CHECK.due("keys()", x.keys(), 0);
    CHECK.due("entries()", x.entries(), 0);
    CHECK.due("stones()", x.stones(), 0);
    CHECK.due("sum(0, 9999)", x.sum(0, 9999), 0);
    CHECK.due("next(-1)", x.next(-1), -1);
    CHECK.due("next(9999)", x.next(9999), -1);
    for (int key : new int[] {0, 1, 9999}) {
      CHECK.due("get(" + key + ")", x.get(key), -1);
      CHECK.due("getSafe(" + key + ")", x.getSafe(key), -1);
      CHECK.due("cost(" + key + ")", x.cost(key), 0);
    }
    for (int level = 0; level < 4; level++) {
      int l = level;
      CHECK.due("runs(" + level + ")", x.runs(level), 0);
      CHECK.due("wouldSave(" + level + ")", x.wouldSave(level), 0);
      CHECK.badPlace(x, "size(" + level + ", 0)", () -> x.size(l, 0));
      CHECK.badPlace(x, "entry(" + level + ", 0, 0, 0)", () -> x.entry(l, 0, 0, 0));
      CHECK.badPlace(x, "bitsSet(" + level + ", 0)", () -> x.bitsSet(l, 0));
      CHECK.badPlace(x, "mayHave(" + level + ", 0, 0)", () -> x.mayHave(l, 0, 0));
    }
  }

  private static void newStoreIsEmpty() {
    SiltStore x = new SiltStore();
    dueEmpty(x);
    CHECK.due("snapshots()", x.snapshots(), 0);
    CHECK.dueCounted(x, 0, 0, 0, 0, 0, 0);
    CHECK.dueReal("amplification()", x.amplification(), 0.0);
    for (int level = 0; level < 4; level++) {
      CHECK.due("mark(" + level + ")", x.mark(level), -1);
    }
    CHECK.badPlace(x, "release(0)", () -> x.release(0));
    CHECK.badPlace(x, "getAt(0, 0)", () -> x.getAt(0, 0));
    CHECK.badPlace(x, "countAt(0, 0, 0)", () -> x.countAt(0, 0, 0));
    CHECK.due("the WAY", x.setWay(1, 2, 4), 0);
    CHECK.due("the first WRITE", x.put(0, 0), 1);
    CHECK.due("the first SNAPSHOT", x.snap(), 0);
  }

  private static void packedToNothingIsEmpty() {
    SiltStore x = new SiltStore();
    Fill.run(x, 0, 1, 9999);
    Fill.stones(x, 0, 1, 9999);
    x.pack(0);
    dueEmpty(x);
    CHECK.due("WRITES", x.counted(3), 6);
  }

  private static void crashedToNothingIsEmpty() {
    SiltStore x = Fill.store(0, 2, 4);
    x.setEvery(0);
    Fill.puts(x, 0, 5);
    x.snap();
    CHECK.due("crash() with nothing SAFE", x.crash(), 5);
    dueEmpty(x);
    CHECK.due("snapshots()", x.snapshots(), 0);
    CHECK.due("AGES go on", x.put(0, 0), 6);
  }

  /** "(0, if there were none)": the AGE of such a SNAPSHOT is less than that of any WRITE. */
  private static void nothingIsThereForAnEarlySnapshot() {
    SiltStore x = new SiltStore();
    CHECK.due("snap()", x.snap(), 0);
    x.put(5, 50);
    CHECK.due("getAt(0, 5) of the HAND", x.getAt(0, 5), -1);
    CHECK.due("countAt(0, 0, 9999) of the HAND", x.countAt(0, 0, 9999), 0);
    x.put(5, 51);
    CHECK.due("hand() keeps nothing for it", x.hand(), 1);
    x.flush();
    CHECK.due("getAt(0, 5) of a RUN", x.getAt(0, 5), -1);
    CHECK.due("countAt(0, 0, 9999) of a RUN", x.countAt(0, 0, 9999), 0);
    CHECK.due("get(5)", x.get(5), 51);
  }

  private static void callsOfNothingChangeNothing() {
    SiltStore x = new SiltStore();
    long before = x.digest();
    CHECK.due("sync()", x.sync(), 0);
    CHECK.due("flush()", x.flush(), 0);
    CHECK.due("crash()", x.crash(), 0);
    for (int level = 0; level < 4; level++) {
      CHECK.due("pack(" + level + ")", x.pack(level), 0);
    }
    CHECK.due("digest()", x.digest(), before);
    // "(if it has any)": an empty HAND makes no RUN, however many RUNS there are.
    Fill.run(x, 1);
    before = x.digest();
    CHECK.due("flush() of an empty HAND", x.flush(), 0);
    CHECK.due("digest()", x.digest(), before);
    CHECK.due("pack(1) without a RUN there", x.pack(1), 0);
    CHECK.due("digest()", x.digest(), before);
  }

  private static void way0MergingLeavesNothing() {
    for (int fan = 2; fan <= 4; fan++) {
      SiltStore x = Fill.store(0, fan, 4);
      for (int run = 0; run < fan; run++) {
        CHECK.due("MERGINGS before", x.counted(4), 0);
        Fill.stones(x, run, run + 1);
      }
      CHECK.due("entries()", x.entries(), 0);
      CHECK.due("runs(0)", x.runs(0), 0);
      CHECK.due("runs(1): no RUN", x.runs(1), 0);
      CHECK.dueCounted(x, 0, 0, 0, 2 * fan, 1, 2 * fan);
    }
  }

  /** The STONES of the least and of the greatest KEY go as all others do, alone and together. */
  private static void mergingOfTheEdgeKeysLeavesNothing() {
    for (int way = 0; way < 2; way++) {
      for (int[] keys : new int[][] {{0}, {9999}, {0, 9999}}) {
        SiltStore x = Fill.store(way, 2, 1);
        Fill.stones(x, keys);
        Fill.stones(x, keys);
        CHECK.due("entries()", x.entries(), 0);
        CHECK.due("runs(1): no RUN", x.runs(1), 0);
        CHECK.dueCounted(x, 0, 0, 0, 2 * keys.length, 1, 2 * keys.length);
      }
    }
  }

  private static void way0LastLevelLeavesNothing() {
    SiltStore x = Fill.store(0, 2, 4);
    Fill.run(x, 1);
    x.pack(0);
    for (int i = 0; i < 7; i++) {
      Fill.stones(x, 1);
    }
    // Each STONE stays over the ENTRY on the level 3.
    CHECK.dueRuns(x, 0, "[1@8-]");
    CHECK.dueRuns(x, 1, "[1@7-]");
    CHECK.dueRuns(x, 2, "[1@5-]");
    CHECK.dueRuns(x, 3, "[1@1=1]");
    CHECK.dueCounted(x, 0, 0, 0, 8, 1 + 3 + 1, 2 + 7 + 3 + 1);
    Fill.stones(x, 1);
    for (int level = 0; level < 4; level++) {
      CHECK.due("runs(" + level + "): no RUN", x.runs(level), 0);
    }
    CHECK.due("entries()", x.entries(), 0);
    // One MERGING for each level; that of the level 3 lays nothing.
    CHECK.dueCounted(x, 0, 0, 0, 9, 5 + 4, 13 + 4);
  }

  private static void way1Level0LeavesNothing() {
    SiltStore x = Fill.store(1, 2, 1);
    Fill.stones(x, 5);
    Fill.stones(x, 6);
    CHECK.due("runs(1): no RUN of the level 0's STONES", x.runs(1), 0);
    CHECK.dueCounted(x, 0, 0, 0, 2, 1, 2);
    Fill.run(x, 5);
    Fill.run(x, 5);
    CHECK.dueRuns(x, 1, "[5@4=1]");
    Fill.stones(x, 5);
    Fill.stones(x, 5);
    CHECK.due("runs(1): no RUN of a STONE and the ENTRY below", x.runs(1), 0);
    CHECK.dueCounted(x, 0, 0, 0, 6, 3, 7);
  }

  /** "The MARK becomes its greatest KEY", even if nothing of the RUN is left on the next level. */
  private static void way1Level1LeavesNothing() {
    SiltStore x = Fill.store(1, 2, 1);
    x.put(5, 1);
    x.snap();
    x.put(5, 2);
    x.snap();
    Fill.run(x, 5);
    Fill.run(x, 5);
    CHECK.dueRuns(x, 2, "[5@4=1 5@2=2 5@1=1]");
    x.release(0);
    x.release(1);
    Fill.stones(x, 5);
    x.put(0, 1);
    x.snap();
    Fill.run(x, 0);
    CHECK.dueRuns(x, 1, "[5@5-]");
    CHECK.due("mark(1)", x.mark(1), 0);
    Fill.run(x, 7);
    Fill.run(x, 8);
    CHECK.dueRuns(x, 1, "[7@8=1][8@9=1]");
    CHECK.dueRuns(x, 2, "");
    CHECK.due("mark(1) of a RUN that is gone", x.mark(1), 5);
  }

  private static void way1Level2LeavesNothing() {
    SiltStore x = Fill.store(1, 2, 1);
    Fill.run(x, 5);
    x.pack(0);
    Fill.stones(x, 5);
    for (int key = 60; key < 65; key++) {
      Fill.run(x, key);
    }
    CHECK.dueRuns(x, 1, "[63@6=1][64@7=1]");
    CHECK.dueRuns(x, 2, "[5@2-][60@3=1][61@4=1][62@5=1]");
    CHECK.dueRuns(x, 3, "[5@1=1]");
    CHECK.due("mark(2)", x.mark(2), -1);
    Fill.run(x, 64);
    Fill.run(x, 65);
    CHECK.dueRuns(x, 2, "[60@3=1][61@4=1][62@5=1][63@6=1]");
    CHECK.dueRuns(x, 3, "");
    CHECK.due("mark(2) of a RUN that is gone", x.mark(2), 5);
  }

  private static void packLeavesNothing() {
    for (int way = 0; way < 2; way++) {
      SiltStore x = Fill.store(way, 4, 1);
      Fill.stones(x, 1, 2, 3);
      Fill.stones(x, 2, 3, 4);
      CHECK.due("wouldSave(0)", x.wouldSave(0), 6);
      CHECK.due("pack(0)", x.pack(0), 6);
      for (int level = 0; level < 4; level++) {
        CHECK.due("runs(" + level + "): no RUN", x.runs(level), 0);
      }
      CHECK.dueCounted(x, 0, 0, 0, 6, 1, 6);
      CHECK.due("setWay, as there is no RUN", x.setWay(1 - way, 2, 2), way);
    }
  }
}
