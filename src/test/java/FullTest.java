/** What is just full and what is just not: the HAND, the LOG, the SNAPSHOTS and each level, in both WAYS. */
public final class FullTest {
  private static final Check CHECK = new Check();

  public static void main(String[] args) {
    handJustFull();
    eachWriteFlushesAndSettles();
    handOverFull();
    handCountsEntriesNotWrites();
    handCountsWhatSnapshotsKeep();
    onlyWritesFlush();
    logOf40();
    logOf40AndFullHand();
    logOf40BehindFlushAndCrash();
    fourSnapshots();
    way0Levels();
    way1Level0();
    way1Level1();
    way1Level2();
    way1GreatestLevels();
    way1LastLevelNeverIs();
    settlingTakesTheFirstFullLevel();
    CHECK.end();
  }

  private static void handJustFull() {
    for (int room = 1; room <= 16; room++) {
      SiltStore x = new SiltStore();
      x.setRoom(room);
      Fill.puts(x, 1, room - 1);
      CHECK.due("hand() one below ROOM " + room, x.hand(), room - 1);
      CHECK.due("runs(0) one below ROOM", x.runs(0), 0);
      x.put(9999, 1);
      CHECK.due("hand() at ROOM " + room, x.hand(), 0);
      CHECK.due("log() at ROOM", x.log(), 0);
      CHECK.due("runs(0) at ROOM", x.runs(0), 1);
      CHECK.due("size(0, 0)", x.size(0, 0), room);
    }
  }

  /** Each kind of WRITE FLUSHES, and SETTLING comes. */
  private static void eachWriteFlushesAndSettles() {
    SiltStore x = new SiltStore();
    x.setRoom(1);
    x.put(1, 1);
    CHECK.due("runs(0) behind put()", x.runs(0), 1);
    x.put(2, 1);
    CHECK.dueRuns(x, 1, "[1@1=1 2@2=1]");
    x.remove(1);
    CHECK.due("runs(0) behind remove()", x.runs(0), 1);
    x.remove(3);
    CHECK.dueRuns(x, 1, "");
    CHECK.dueRuns(x, 2, "[2@2=1]");
    x.setRoom(2);
    x.put(4, 1);
    CHECK.due("flush()", x.flush(), 1);
    x.put(5, 1);
    CHECK.due("flush()", x.flush(), 1);
    CHECK.dueRuns(x, 1, "[4@5=1 5@6=1]");
  }

  /** "Or more": setRoom() leaves a HAND that is too full till the next WRITE, whatever KEY that has. */
  private static void handOverFull() {
    for (int key = 3; key <= 6; key += 3) {
      SiltStore x = Fill.store(0, 2, 4);
      Fill.puts(x, 1, 5);
      x.setRoom(2);
      CHECK.due("hand() behind setRoom(2)", x.hand(), 5);
      CHECK.due("runs(0)", x.runs(0), 0);
      x.remove(key);
      CHECK.due("hand() behind the next WRITE", x.hand(), 0);
      CHECK.due("size(0, 0)", x.size(0, 0), Math.max(key, 5));
    }
    SiltStore y = Fill.store(0, 2, 4);
    Fill.puts(y, 1, 3);
    y.setRoom(4);
    y.put(3, 2);
    CHECK.due("hand() with a ROOM that is left", y.hand(), 3);
    y.setRoom(3);
    CHECK.due("hand() just full by setRoom()", y.hand(), 3);
    y.put(3, 3);
    CHECK.due("hand() behind the next WRITE", y.hand(), 0);
  }

  private static void handCountsEntriesNotWrites() {
    SiltStore x = new SiltStore();
    Fill.puts(x, 1, 3);
    x.put(3, 2);
    x.remove(2);
    x.put(1, 2);
    CHECK.due("hand() of ROOM 4", x.hand(), 3);
    CHECK.due("log()", x.log(), 6);
    x.remove(4);
    CHECK.due("hand() with a STONE as the fourth", x.hand(), 0);
    CHECK.dueRuns(x, 0, "[1@6=2 2@5- 3@4=2 4@7-]");
  }

  private static void handCountsWhatSnapshotsKeep() {
    SiltStore x = new SiltStore();
    for (int i = 0; i < 3; i++) {
      x.put(7, i);
      x.snap();
    }
    CHECK.due("hand() with three SNAPSHOTS of one KEY", x.hand(), 3);
    x.put(7, 3);
    CHECK.due("hand() at ROOM 4", x.hand(), 0);
    CHECK.dueRuns(x, 0, "[7@4=3 7@3=2 7@2=1 7@1=0]");
  }

  private static void onlyWritesFlush() {
    SiltStore x = Fill.store(0, 2, 4);
    x.setEvery(0);
    Fill.puts(x, 1, 4);
    x.setRoom(1);
    x.setEvery(1);
    x.setFilter(0, 1);
    x.sync();
    x.snap();
    x.get(1);
    x.getAt(0, 1);
    x.release(0);
    x.pack(0);
    x.crash();
    CHECK.due("hand() without a WRITE more", x.hand(), 4);
    CHECK.due("runs(0)", x.runs(0), 0);
    x.put(4, 2);
    CHECK.due("hand() behind a WRITE", x.hand(), 0);
  }

  private static void logOf40() {
    SiltStore x = Fill.store(0, 2, 4);
    for (int i = 1; i < 40; i++) {
      CHECK.due("AGE", i % 3 == 0 ? x.remove(5) : x.put(5, i), i);
    }
    CHECK.due("log() with 39 WRITES", x.log(), 39);
    CHECK.due("hand()", x.hand(), 1);
    CHECK.due("runs(0)", x.runs(0), 0);
    CHECK.due("AGE", x.put(5, 40), 40);
    CHECK.due("log() with 40 WRITES", x.log(), 0);
    CHECK.due("hand()", x.hand(), 0);
    CHECK.dueRuns(x, 0, "[5@40=40]");
    CHECK.due("unsafe()", x.unsafe(), 0);
  }

  private static void logOf40AndFullHand() {
    SiltStore x = Fill.store(0, 2, 4);
    for (int i = 1; i <= 25; i++) {
      x.put(100, i);
    }
    Fill.puts(x, 101, 14);
    CHECK.due("log()", x.log(), 39);
    CHECK.due("hand()", x.hand(), 15);
    x.put(115, 1);
    CHECK.due("runs(0): FLUSHED once", x.runs(0), 1);
    CHECK.due("size(0, 0)", x.size(0, 0), 16);
    CHECK.dueCounted(x, 0, 0, 0, 40, 0, 16);
  }

  private static void logOf40BehindFlushAndCrash() {
    SiltStore x = Fill.store(0, 4, 4);
    x.setEvery(0);
    writes(x, 10);
    x.flush();
    writes(x, 39);
    CHECK.due("log() behind a FLUSH", x.log(), 39);
    writes(x, 1);
    CHECK.due("log()", x.log(), 0);
    writes(x, 30);
    x.sync();
    writes(x, 9);
    CHECK.due("log()", x.log(), 39);
    CHECK.due("crash()", x.crash(), 9);
    CHECK.due("log() without what is lost", x.log(), 30);
    writes(x, 9);
    CHECK.due("log()", x.log(), 39);
    CHECK.due("runs(0)", x.runs(0), 2);
    writes(x, 1);
    CHECK.due("log()", x.log(), 0);
    CHECK.due("runs(0)", x.runs(0), 3);
  }

  private static void writes(SiltStore x, int count) {
    for (int i = 0; i < count; i++) {
      x.put(5, i);
    }
  }

  private static void fourSnapshots() {
    SiltStore x = new SiltStore();
    x.snap();
    x.snap();
    x.snap();
    CHECK.due("snapshots()", x.snapshots(), 3);
    CHECK.due("the fourth snap()", x.snap(), 3);
    CHECK.due("snapshots()", x.snapshots(), 4);
    CHECK.badState(x, "the fifth snap()", x::snap);
    CHECK.due("release(0)", x.release(0), 3);
    CHECK.due("snap()", x.snap(), 4);
    CHECK.badState(x, "snap() with four again", x::snap);
    x.crash();
    for (int number = 5; number < 9; number++) {
      CHECK.due("snap() behind a CRASH", x.snap(), number);
    }
    CHECK.badState(x, "snap() with four again", x::snap);
  }

  /** With another KEY in each RUN, FAN^l RUNS make one on the level l: one RUN less leaves that just not FULL. */
  private static void way0Levels() {
    for (int fan = 2; fan <= 4; fan++) {
      int runs = fan;
      for (int level = 0; level < 4; level++) {
        way0Runs(fan, runs - 1);
        way0Runs(fan, runs);
        runs *= fan;
      }
    }
  }

  private static void way0Runs(int fan, int n) {
    SiltStore x = Fill.store(0, fan, 4);
    x.setRoom(1);
    Fill.puts(x, 1, n);
    int got = n;
    int size = 1;
    for (int level = 0; level < 3; level++) {
      CHECK.due("FAN " + fan + ", " + n + " RUNS: runs(" + level + ")", x.runs(level), got % fan);
      CHECK.due("FAN " + fan + ", " + n + " RUNS: ENTRIES", Fill.entriesOn(x, level), got % fan * size);
      got /= fan;
      size *= fan;
    }
    CHECK.due("FAN " + fan + ", " + n + " RUNS: runs(3)", x.runs(3), got < fan ? got : 1);
    CHECK.due("FAN " + fan + ", " + n + " RUNS: ENTRIES", Fill.entriesOn(x, 3), got * size);
  }

  private static void way1Level0() {
    for (int fan = 2; fan <= 4; fan++) {
      SiltStore x = Fill.store(1, fan, 20);
      for (int key = 1; key < fan; key++) {
        Fill.run(x, key);
      }
      CHECK.due("runs(0) just not FULL with FAN " + fan, x.runs(0), fan - 1);
      CHECK.due("runs(1)", x.runs(1), 0);
      Fill.run(x, 1);
      CHECK.due("runs(0) just FULL with FAN " + fan, x.runs(0), 0);
      CHECK.due("runs(1)", x.runs(1), 1);
      CHECK.due("size(1, 0)", x.size(1, 0), fan - 1);
    }
  }

  /** "More than PIECE * FAN": as many ENTRIES stay, one more is too many. */
  private static void way1Level1() {
    for (int piece : new int[] {1, 2, 20}) {
      for (int fan = 2; fan <= 4; fan++) {
        String told = " with PIECE " + piece + ", FAN " + fan;
        SiltStore x = Fill.store(1, fan, piece);
        x.setRoom(1);
        Fill.puts(x, 100, piece * fan);
        CHECK.due("ENTRIES of the level 1 just not FULL" + told, Fill.entriesOn(x, 1), piece * fan);
        CHECK.due("runs(2)" + told, x.runs(2), 0);
        CHECK.due("mark(1)" + told, x.mark(1), -1);
        for (int i = 1; i < fan; i++) {
          x.put(100, 2);
        }
        x.put(99, 1);
        // The first FAN KEYS and 99 met each other, so these begin the level now; as many of them as fit go down.
        int gone = Math.min(piece, fan + 1);
        CHECK.due("ENTRIES of the level 1 just FULL" + told, Fill.entriesOn(x, 1), piece * fan + 1 - gone);
        CHECK.due("runs(2)" + told, x.runs(2), 1);
        CHECK.due("size(2, 0)" + told, x.size(2, 0), gone);
        CHECK.due("mark(1)" + told, x.mark(1), 99 + gone - 1);
      }
    }
  }

  /** "More than PIECE * FAN^2": with PIECE 1 each RUN that comes has one ENTRY, so the level stays just not FULL. */
  private static void way1Level2() {
    for (int fan = 2; fan <= 4; fan++) {
      SiltStore x = Fill.store(1, fan, 1);
      x.setRoom(1);
      int square = fan * fan;
      Fill.puts(x, 100, fan + square);
      CHECK.due("ENTRIES of the level 2 just not FULL, FAN " + fan, Fill.entriesOn(x, 2), square);
      CHECK.due("runs(3)", x.runs(3), 0);
      CHECK.due("mark(2)", x.mark(2), -1);
      // One KEY more on the level 1 takes one RUN down, and that another one.
      for (int i = 1; i < fan; i++) {
        x.put(99 + fan + square, 2);
      }
      x.put(100 + fan + square, 1);
      CHECK.due("ENTRIES of the level 1", Fill.entriesOn(x, 1), fan);
      CHECK.due("ENTRIES of the level 2 just FULL, FAN " + fan, Fill.entriesOn(x, 2), square);
      CHECK.dueRuns(x, 3, "[100@1=1]");
      CHECK.due("mark(2)", x.mark(2), 100);
    }
  }

  /** PIECE 20 and FAN 4: 80 ENTRIES fit on the level 1, 320 on the level 2; RUNS of four KEYS go down. */
  private static void way1GreatestLevels() {
    way1GreatestLevels(403, 3, 0);
    way1GreatestLevels(404, 0, 4);
  }

  private static void way1GreatestLevels(int n, int onLevel0, int onLevel3) {
    SiltStore x = Fill.store(1, 4, 20);
    x.setRoom(1);
    Fill.puts(x, 1, n);
    CHECK.due(n + " ENTRIES: runs(0)", x.runs(0), onLevel0);
    CHECK.due(n + " ENTRIES: of the level 1", Fill.entriesOn(x, 1), 80);
    CHECK.due(n + " ENTRIES: of the level 2", Fill.entriesOn(x, 2), 320);
    CHECK.due(n + " ENTRIES: of the level 3", Fill.entriesOn(x, 3), onLevel3);
  }

  private static void way1LastLevelNeverIs() {
    SiltStore x = Fill.store(1, 2, 1);
    x.setRoom(1);
    Fill.puts(x, 1, 500);
    CHECK.due("runs(1)", x.runs(1), 2);
    CHECK.due("runs(2)", x.runs(2), 4);
    CHECK.due("runs(3)", x.runs(3), 494);
  }

  /** Both the level 1 and the level 2 are FULL on the way: the MARKS tell that the level 1 went first. */
  private static void settlingTakesTheFirstFullLevel() {
    SiltStore x = Fill.store(1, 2, 1);
    Fill.run(x, 10);
    Fill.run(x, 20);
    Fill.run(x, 30);
    Fill.run(x, 40);
    Fill.run(x, 50);
    Fill.run(x, 60);
    CHECK.dueRuns(x, 2, "[10@1=1][20@2=1][30@3=1][40@4=1]");
    Fill.run(x, 15);
    Fill.run(x, 70);
    // From 15, 50, 60, 70 on the level 1 50 and 60 go; only then 10 and 20 go from 10 to 60 on the level 2.
    CHECK.dueRuns(x, 1, "[15@7=1][70@8=1]");
    CHECK.dueRuns(x, 2, "[30@3=1][40@4=1][50@5=1][60@6=1]");
    CHECK.dueRuns(x, 3, "[10@1=1][20@2=1]");
    CHECK.due("mark(1)", x.mark(1), 60);
    CHECK.due("mark(2)", x.mark(2), 20);
  }
}
