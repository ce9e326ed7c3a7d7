/** Promises 6 to 11: put, remove, sync, flush, pack, crash. */
public final class WritingTest {
  private static final Check CHECK = new Check();
  private static final int[] NO_KEYS = {-1, 10000, Integer.MIN_VALUE, Integer.MAX_VALUE};

  public static void main(String[] args) {
    promise6Put();
    promise6PutFlushes();
    promise6LogOf40();
    promise7Remove();
    promise8Sync();
    promise9Flush();
    promise10PackWay0();
    promise10PackWay1();
    promise10PackOfNothing();
    promise11Crash();
    promise11CrashAndHand();
    CHECK.end();
  }

  private static void promise6Put() {
    SiltStore x = new SiltStore();
    x.setRoom(16);
    CHECK.due("put(0, 0)", x.put(0, 0), 1);
    CHECK.due("put(9999, 9999)", x.put(9999, 9999), 2);
    CHECK.due("put(0, 7)", x.put(0, 7), 3);
    CHECK.due("hand", x.hand(), 2);
    CHECK.due("log", x.log(), 3);
    CHECK.due("get(0)", x.get(0), 7);
    CHECK.due("get(9999)", x.get(9999), 9999);
    for (int key : NO_KEYS) {
      CHECK.badArgument(x, "put(" + key + ", 1)", () -> x.put(key, 1));
      CHECK.badArgument(x, "put(1, " + key + ")", () -> x.put(1, key));
    }
    CHECK.due("the age behind refused writes", x.put(5, 5), 4);
    CHECK.dueCounted(x, 0, 0, 0, 4, 0, 0);
  }

  private static void promise6PutFlushes() {
    SiltStore x = new SiltStore();
    x.setRoom(2);
    x.setEvery(0);
    x.put(7, 1);
    x.put(7, 2);
    CHECK.due("hand", x.hand(), 1);
    CHECK.due("put that flushes", x.put(3, 3), 3);
    CHECK.due("hand", x.hand(), 0);
    CHECK.due("log", x.log(), 0);
    CHECK.due("unsafe", x.unsafe(), 0);
    CHECK.dueRuns(x, 0, "[3@3=3 7@2=2]");
    CHECK.due("crash loses nothing of runs", x.crash(), 0);
    CHECK.due("get", x.get(7), 2);
    // A snapshot keeps older entries in the hand, and they take room.
    x.put(1, 1);
    x.snap();
    x.put(1, 2);
    CHECK.due("hand", x.hand(), 0);
    CHECK.dueRuns(x, 1, "[1@5=2 1@4=1 3@3=3 7@2=2]");
  }

  private static void promise6LogOf40() {
    SiltStore x = new SiltStore();
    x.setRoom(16);
    for (int i = 1; i <= 39; i++) {
      x.put(1, i);
    }
    CHECK.due("log", x.log(), 39);
    CHECK.due("hand", x.hand(), 1);
    CHECK.due("runs", x.runs(0), 0);
    x.put(1, 40);
    CHECK.due("log", x.log(), 0);
    CHECK.dueRuns(x, 0, "[1@40=40]");
  }

  private static void promise7Remove() {
    SiltStore x = new SiltStore();
    CHECK.due("remove of a key that has nothing", x.remove(9999), 1);
    x.put(0, 5);
    CHECK.due("remove(0)", x.remove(0), 3);
    CHECK.due("get(0)", x.get(0), -1);
    CHECK.due("hand", x.hand(), 2);
    for (int key : NO_KEYS) {
      CHECK.badArgument(x, "remove(" + key + ")", () -> x.remove(key));
    }
    x.flush();
    CHECK.dueRuns(x, 0, "[0@3- 9999@1-]");
    CHECK.due("stones", x.stones(), 2);
    x.setRoom(1);
    CHECK.due("remove that flushes", x.remove(4), 4);
    CHECK.due("all stones gone with nothing behind", x.entries(), 0);
    CHECK.due("runs", x.runs(1), 0);
  }

  private static void promise8Sync() {
    SiltStore x = new SiltStore();
    CHECK.due("sync of nothing", x.sync(), 0);
    x.setEvery(0);
    x.put(1, 1);
    x.put(2, 2);
    CHECK.due("sync", x.sync(), 2);
    CHECK.due("unsafe", x.unsafe(), 0);
    CHECK.due("sync once more", x.sync(), 0);
    x.put(1, 3);
    CHECK.due("unsafe", x.unsafe(), 1);
    CHECK.due("crash", x.crash(), 1);
    CHECK.due("get", x.get(1), 1);
    CHECK.due("log", x.log(), 2);
  }

  private static void promise9Flush() {
    SiltStore x = new SiltStore();
    CHECK.due("flush of nothing", x.flush(), 0);
    CHECK.due("runs", x.runs(0), 0);
    x.put(2, 1);
    x.snap();
    x.put(2, 2);
    x.put(1, 3);
    CHECK.due("flush", x.flush(), 3);
    CHECK.due("hand", x.hand(), 0);
    CHECK.due("log", x.log(), 0);
    CHECK.dueRuns(x, 0, "[1@3=3 2@2=2 2@1=1]");
    CHECK.due("flush of nothing", x.flush(), 0);
    CHECK.due("runs", x.runs(0), 1);
    CHECK.dueCounted(x, 0, 0, 0, 3, 0, 3);
    x.put(9, 9);
    CHECK.due("flush that settles", x.flush(), 1);
    CHECK.dueRuns(x, 0, "");
    CHECK.dueRuns(x, 1, "[1@3=3 2@2=2 2@1=1 9@4=9]");
    CHECK.dueCounted(x, 0, 0, 0, 4, 1, 8);
  }

  /** FAN 2: RUNS on the levels 0, 1 and 2, with a STONE on each of the upper ones. */
  private static SiltStore threeLevels() {
    SiltStore x = new SiltStore();
    for (int key = 1; key <= 4; key++) {
      x.put(key, key);
      x.flush();
    }
    x.remove(1);
    x.flush();
    x.put(5, 5);
    x.flush();
    x.remove(2);
    x.flush();
    return x;
  }

  private static void promise10PackWay0() {
    SiltStore x = threeLevels();
    CHECK.dueRuns(x, 0, "[2@7-]");
    CHECK.dueRuns(x, 1, "[1@5- 5@6=5]");
    CHECK.dueRuns(x, 2, "[1@1=1 2@2=2 3@3=3 4@4=4]");
    for (int level : new int[] {-1, 4, Integer.MIN_VALUE, Integer.MAX_VALUE}) {
      CHECK.badPlace(x, "pack(" + level + ")", () -> x.pack(level));
    }
    int mergings = x.counted(4);
    int laid = x.counted(5);
    CHECK.due("pack(1)", x.pack(1), 2);
    CHECK.dueRuns(x, 0, "[2@7-]");
    CHECK.dueRuns(x, 1, "");
    CHECK.dueRuns(x, 2, "");
    CHECK.dueRuns(x, 3, "[2@2=2 3@3=3 4@4=4 5@6=5]");
    CHECK.due("mergings", x.counted(4), mergings + 1);
    CHECK.due("laid", x.counted(5), laid + 4);
    CHECK.due("pack(3) of one run", x.pack(3), 0);
    CHECK.due("mergings", x.counted(4), mergings + 2);
    CHECK.due("laid", x.counted(5), laid + 8);
    CHECK.due("pack(0)", x.pack(0), 2);
    CHECK.dueRuns(x, 3, "[3@3=3 4@4=4 5@6=5]");
    SiltStore y = threeLevels();
    CHECK.due("pack(2)", y.pack(2), 0);
    CHECK.dueRuns(y, 1, "[1@5- 5@6=5]");
    CHECK.dueRuns(y, 3, "[1@1=1 2@2=2 3@3=3 4@4=4]");
    CHECK.due("hand is left", y.put(1, 1), 8);
    CHECK.due("pack(0)", y.pack(0), 4);
    CHECK.due("hand is left", y.hand(), 1);
  }

  private static void promise10PackWay1() {
    SiltStore x = new SiltStore();
    x.setWay(1, 3, 2);
    x.setRoom(16);
    for (int key = 1; key <= 5; key++) {
      x.put(key, key);
    }
    x.flush();
    x.remove(3);
    x.flush();
    CHECK.due("pack of the level 3 takes all from 0 on", x.pack(3), 2);
    CHECK.dueRuns(x, 0, "");
    CHECK.dueRuns(x, 3, "[1@1=1 2@2=2][4@4=4 5@5=5]");
    x.put(0, 9);
    x.snap();
    x.put(0, 8);
    x.snap();
    x.put(0, 7);
    x.flush();
    CHECK.due("pack(1)", x.pack(1), 0);
    CHECK.dueRuns(x, 3, "[0@9=7 0@8=8 0@7=9][1@1=1 2@2=2][4@4=4 5@5=5]");
    CHECK.due("mark", x.mark(1), -1);
    CHECK.dueCounted(x, 0, 0, 0, 9, 2, 5 + 1 + 4 + 3 + 7);
    CHECK.badPlace(x, "pack(4)", () -> x.pack(4));
    CHECK.badPlace(x, "pack(-1)", () -> x.pack(-1));
  }

  private static void promise10PackOfNothing() {
    SiltStore x = new SiltStore();
    x.put(1, 1);
    CHECK.due("pack(0) without runs", x.pack(0), 0);
    CHECK.dueCounted(x, 0, 0, 0, 1, 0, 0);
    x.flush();
    CHECK.due("pack(1) with a run on the level 0 alone", x.pack(1), 0);
    CHECK.dueCounted(x, 0, 0, 0, 1, 0, 1);
    x.pack(0);
    CHECK.dueRuns(x, 3, "[1@1=1]");
    x.remove(1);
    x.flush();
    CHECK.due("pack(0) that leaves nothing", x.pack(0), 2);
    CHECK.due("runs", x.runs(3), 0);
    CHECK.dueCounted(x, 0, 0, 0, 2, 2, 3);
  }

  private static void promise11Crash() {
    SiltStore x = new SiltStore();
    CHECK.due("crash of nothing", x.crash(), 0);
    x.setEvery(3);
    x.setRoom(16);
    for (int i = 1; i <= 5; i++) {
      x.put(1, i);
    }
    x.remove(2);
    x.put(2, 2);
    x.put(1, 9);
    x.snap();
    CHECK.due("unsafe", x.unsafe(), 2);
    CHECK.due("crash", x.crash(), 2);
    CHECK.due("log", x.log(), 6);
    CHECK.due("hand", x.hand(), 2);
    CHECK.due("unsafe", x.unsafe(), 0);
    CHECK.due("snapshots", x.snapshots(), 0);
    CHECK.badPlace(x, "release(0)", () -> x.release(0));
    CHECK.due("get(1)", x.get(1), 5);
    CHECK.due("get(2)", x.get(2), -1);
    CHECK.due("ages go on", x.put(3, 3), 9);
    CHECK.due("snapshots' numbers go on", x.snap(), 1);
    CHECK.dueCounted(x, 0, 0, 0, 9, 0, 0);
  }

  private static void promise11CrashAndHand() {
    SiltStore x = new SiltStore();
    x.setRoom(16);
    x.put(1, 1);
    x.snap();
    x.put(1, 2);
    x.put(5, 5);
    x.flush();
    x.put(1, 3);
    x.snap();
    x.put(1, 4);
    CHECK.due("hand", x.hand(), 2);
    CHECK.due("crash with all safe", x.crash(), 0);
    CHECK.due("hand has no more than is needed", x.hand(), 1);
    CHECK.due("log", x.log(), 2);
    CHECK.due("runs stay as they are", x.entries(), 3);
    x.setEvery(0);
    x.put(5, 6);
    x.remove(1);
    CHECK.due("get", x.get(1), -1);
    CHECK.due("crash", x.crash(), 2);
    CHECK.due("get", x.get(1), 4);
    CHECK.due("get", x.get(5), 5);
  }
}
