/** Term 2 at its edges, and promises 8, 11, 13, 22, 36: what is SAFE, and what a CRASH leaves. */
public final class SafeTest {
  private static final Check CHECK = new Check();
  private static final int KEYS = 9;

  public static void main(String[] args) {
    syncTellsHowManyWereNot();
    crashOfAllAndOfNone();
    crashBringsBackWhatIsSafe();
    crashOfStones();
    crashTwice();
    crashLeavesRuns();
    crashTakesSnapshotsOutOfTheHand();
    agesAndNumbersGoOn();
    syncMakesSafeWhatIsLeft();
    getSafeOfEachKind();
    getSafeIsWhatACrashLeaves();
    releaseOutOfTheHand();
    CHECK.end();
  }

  private static SiltStore unsafeStore() {
    SiltStore x = Fill.store(0, 3, 4);
    x.setEvery(0);
    return x;
  }

  private static void syncTellsHowManyWereNot() {
    SiltStore x = unsafeStore();
    CHECK.due("sync() of nothing", x.sync(), 0);
    for (int i = 0; i < 39; i++) {
      x.put(1, i);
    }
    CHECK.due("unsafe()", x.unsafe(), 39);
    CHECK.due("sync() of 39 WRITES", x.sync(), 39);
    CHECK.due("unsafe()", x.unsafe(), 0);
    CHECK.due("sync() again", x.sync(), 0);
    x.put(1, 1);
    CHECK.due("sync() behind a FLUSH", x.sync(), 0);
    x.put(1, 1);
    CHECK.due("sync() of one", x.sync(), 1);
    CHECK.due("log()", x.log(), 1);
  }

  private static void crashOfAllAndOfNone() {
    SiltStore x = unsafeStore();
    Fill.puts(x, 1, 5);
    CHECK.due("crash() with none SAFE", x.crash(), 5);
    CHECK.due("log()", x.log(), 0);
    CHECK.due("hand()", x.hand(), 0);
    CHECK.due("keys()", x.keys(), 0);
    Fill.puts(x, 1, 5);
    x.sync();
    CHECK.due("crash() with all SAFE", x.crash(), 0);
    CHECK.due("log()", x.log(), 5);
    CHECK.due("hand()", x.hand(), 5);
    x.put(1, 2);
    CHECK.due("crash() with one not SAFE", x.crash(), 1);
    CHECK.due("get(1)", x.get(1), 1);
  }

  /** The LOG has WRITES that are not NEEDED: the last SAFE one of them is NEEDED then. */
  private static void crashBringsBackWhatIsSafe() {
    SiltStore x = unsafeStore();
    for (int value = 1; value <= 6; value++) {
      x.put(5, value);
      if (value == 4) {
        x.sync();
      }
    }
    CHECK.due("hand()", x.hand(), 1);
    CHECK.due("getSafe(5)", x.getSafe(5), 4);
    CHECK.due("crash()", x.crash(), 2);
    CHECK.due("hand()", x.hand(), 1);
    CHECK.due("log()", x.log(), 4);
    CHECK.due("get(5)", x.get(5), 4);
    x.flush();
    CHECK.dueRuns(x, 0, "[5@4=4]");
  }

  private static void crashOfStones() {
    SiltStore x = unsafeStore();
    Fill.run(x, 1, 2);
    x.remove(1);
    x.sync();
    x.remove(2);
    CHECK.due("getSafe(1) of a SAFE STONE", x.getSafe(1), -1);
    CHECK.due("getSafe(2) of a STONE that is not", x.getSafe(2), 1);
    CHECK.due("get(2)", x.get(2), -1);
    CHECK.due("crash()", x.crash(), 1);
    CHECK.due("get(1)", x.get(1), -1);
    CHECK.due("get(2)", x.get(2), 1);
    CHECK.due("hand()", x.hand(), 1);
  }

  private static void crashTwice() {
    SiltStore x = unsafeStore();
    Fill.puts(x, 1, 3);
    x.sync();
    Fill.puts(x, 4, 2);
    CHECK.due("crash()", x.crash(), 2);
    CHECK.due("unsafe()", x.unsafe(), 0);
    long before = x.digest();
    CHECK.due("crash() again", x.crash(), 0);
    CHECK.due("digest()", x.digest(), before);
  }

  private static void crashLeavesRuns() {
    SiltStore x = unsafeStore();
    Fill.run(x, 1);
    Fill.run(x, 2);
    x.pack(0);
    Fill.run(x, 3);
    CHECK.due("crash()", x.crash(), 0);
    CHECK.dueRuns(x, 0, "[3@3=1]");
    CHECK.dueRuns(x, 3, "[1@1=1 2@2=1]");
    CHECK.dueCounted(x, 0, 0, 0, 3, 1, 5);
  }

  /** "No SNAPSHOT is there any more", so the HAND has no ENTRIES for one, though nothing was lost. */
  private static void crashTakesSnapshotsOutOfTheHand() {
    SiltStore x = Fill.store(0, 2, 4);
    for (int value = 1; value <= 4; value++) {
      x.put(5, value);
      x.snap();
    }
    x.put(5, 5);
    CHECK.due("hand()", x.hand(), 5);
    CHECK.due("snapshots()", x.snapshots(), 4);
    CHECK.due("crash()", x.crash(), 0);
    CHECK.due("hand()", x.hand(), 1);
    CHECK.due("log()", x.log(), 5);
    CHECK.due("snapshots()", x.snapshots(), 0);
    for (int number = 0; number < 4; number++) {
      int gone = number;
      CHECK.badPlace(x, "getAt(" + number + ", 5)", () -> x.getAt(gone, 5));
      CHECK.badPlace(x, "countAt(" + number + ", 0, 9)", () -> x.countAt(gone, 0, 9));
      CHECK.badPlace(x, "release(" + number + ")", () -> x.release(gone));
    }
  }

  /** "Never used again", "no number is used again": what was lost counts. */
  private static void agesAndNumbersGoOn() {
    SiltStore x = unsafeStore();
    Fill.puts(x, 1, 7);
    CHECK.due("snap()", x.snap(), 0);
    x.crash();
    CHECK.due("snap() behind a CRASH", x.snap(), 1);
    CHECK.due("put() behind a CRASH", x.put(1, 50), 8);
    CHECK.due("remove() behind a CRASH", x.remove(2), 9);
    CHECK.due("getAt(1, 1)", x.getAt(1, 1), -1);
    CHECK.due("counted(3)", x.counted(3), 9);
    x.flush();
    CHECK.dueRuns(x, 0, "[1@8=50 2@9-]");
  }

  private static void syncMakesSafeWhatIsLeft() {
    SiltStore x = unsafeStore();
    Fill.puts(x, 1, 2);
    x.sync();
    Fill.puts(x, 3, 3);
    x.crash();
    Fill.puts(x, 6, 4);
    CHECK.due("unsafe() behind a CRASH", x.unsafe(), 4);
    CHECK.due("sync()", x.sync(), 4);
    CHECK.due("log()", x.log(), 6);
    CHECK.due("crash()", x.crash(), 0);
  }

  private static void getSafeOfEachKind() {
    SiltStore x = unsafeStore();
    x.put(1, 10);
    x.put(2, 20);
    x.flush();
    x.put(2, 21);
    x.put(3, 30);
    x.put(3, 31);
    x.sync();
    x.put(1, 11);
    x.put(2, 22);
    x.put(3, 32);
    x.put(4, 40);
    CHECK.due("getSafe(1) of a RUN alone", x.getSafe(1), 10);
    CHECK.due("getSafe(2) of the LOG and a RUN", x.getSafe(2), 21);
    CHECK.due("getSafe(3) of the LOG, the newest", x.getSafe(3), 31);
    CHECK.due("getSafe(4) of nothing SAFE", x.getSafe(4), -1);
    CHECK.due("getSafe(5) of nothing", x.getSafe(5), -1);
    CHECK.due("unsafe(), as nothing is changed", x.unsafe(), 4);
    CHECK.due("get(4)", x.get(4), 40);
    CHECK.dueCounted(x, 0, 0, 0, 9, 0, 2);
  }

  private static void getSafeIsWhatACrashLeaves() {
    for (int calls = 0; calls < 120; calls++) {
      SiltStore x = new SiltStore();
      x.setRoom(5);
      x.setEvery(calls % 7);
      for (int i = 0; i < calls; i++) {
        if (i % 3 == 1) {
          x.remove(i * 5 % KEYS);
        } else {
          x.put(i * i % KEYS, i);
        }
        if (i % 20 == 9) {
          x.snap();
        } else if (i % 20 == 14) {
          x.crash();
        }
      }
      int[] due = new int[KEYS];
      for (int key = 0; key < KEYS; key++) {
        due[key] = x.getSafe(key);
      }
      x.crash();
      for (int key = 0; key < KEYS; key++) {
        CHECK.due("get(" + key + ") behind a CRASH", x.get(key), due[key]);
        CHECK.due("getSafe(" + key + ") behind a CRASH", x.getSafe(key), due[key]);
      }
    }
  }

  /** "The HAND has no more ENTRIES then than are NEEDED; RUNS stay as they are." */
  private static void releaseOutOfTheHand() {
    SiltStore x = Fill.store(0, 2, 4);
    x.put(5, 1);
    x.snap();
    x.put(5, 2);
    x.flush();
    x.put(5, 3);
    x.snap();
    x.put(5, 4);
    x.snap();
    x.put(5, 5);
    CHECK.due("hand()", x.hand(), 3);
    CHECK.due("release(1)", x.release(1), 2);
    CHECK.due("hand()", x.hand(), 2);
    CHECK.due("release(0)", x.release(0), 1);
    CHECK.due("hand()", x.hand(), 2);
    CHECK.due("release(2)", x.release(2), 0);
    CHECK.due("hand()", x.hand(), 1);
    CHECK.due("log()", x.log(), 3);
    CHECK.dueRuns(x, 0, "[5@2=2 5@1=1]");
  }
}
