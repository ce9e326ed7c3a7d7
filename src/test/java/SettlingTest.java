/** Terms 2 to 4: flushing, settling and merging, in both WAYS. */
public final class SettlingTest {
  private static final Check CHECK = new Check();

  public static void main(String[] args) {
    way0GoesDownLevelByLevel();
    way0LastLevelHasOneRun();
    way0NewestFirst();
    way0StonesStayOverEntriesBehind();
    way0OldestStonesGoAgainAndAgain();
    way0SnapshotsKeepEntries();
    way1GoesDownInPieces();
    way1TakesRangesTogether();
    way1PiecesHaveWholeKeys();
    way1StoneStaysOverLevelsBelow();
    way1StoneGoesUnderLevelsAbove();
    way1RangesMeetAtTheirEdges();
    CHECK.end();
  }

  private static void way0GoesDownLevelByLevel() {
    SiltStore x = new SiltStore();
    Fill.run(x, 4);
    CHECK.dueRuns(x, 0, "[4@1=1]");
    Fill.run(x, 3);
    CHECK.dueRuns(x, 0, "");
    CHECK.dueRuns(x, 1, "[3@2=1 4@1=1]");
    CHECK.dueCounted(x, 0, 0, 0, 2, 1, 4);
    Fill.run(x, 2);
    Fill.run(x, 4);
    CHECK.dueRuns(x, 1, "");
    CHECK.dueRuns(x, 2, "[2@3=1 3@2=1 4@4=1]");
    CHECK.dueCounted(x, 0, 0, 0, 4, 3, 4 + 2 + 2 + 3);
    CHECK.due("mark", x.mark(1), -1);
  }

  private static void way0LastLevelHasOneRun() {
    SiltStore x = new SiltStore();
    for (int key = 1; key <= 15; key++) {
      Fill.run(x, key);
    }
    for (int level = 0; level < 4; level++) {
      CHECK.due("runs(" + level + ")", x.runs(level), 1);
      CHECK.due("size", x.size(level, 0), 1 << level);
    }
    Fill.run(x, 16);
    CHECK.due("runs(0)", x.runs(0), 0);
    CHECK.due("runs(1)", x.runs(1), 0);
    CHECK.due("runs(2)", x.runs(2), 0);
    CHECK.due("runs(3)", x.runs(3), 1);
    CHECK.due("size", x.size(3, 0), 16);
    CHECK.dueCounted(x, 0, 0, 0, 16, 15, 80);
    CHECK.dueReal("amplification", x.amplification(), 5.0);
  }

  private static void way0NewestFirst() {
    SiltStore x = new SiltStore();
    x.setWay(0, 3, 4);
    Fill.run(x, 1);
    Fill.run(x, 2);
    CHECK.dueRuns(x, 0, "[2@2=1][1@1=1]");
    Fill.run(x, 3);
    Fill.run(x, 1);
    Fill.run(x, 2);
    Fill.run(x, 9);
    CHECK.dueRuns(x, 1, "[1@4=1 2@5=1 9@6=1][1@1=1 2@2=1 3@3=1]");
  }

  private static void way0StonesStayOverEntriesBehind() {
    SiltStore x = new SiltStore();
    x.setWay(0, 3, 4);
    Fill.run(x, 1);
    Fill.run(x, 2);
    Fill.run(x, 3);
    Fill.stones(x, 1);
    Fill.stones(x, 7);
    Fill.run(x, 9);
    CHECK.dueRuns(x, 1, "[1@4- 9@6=1][1@1=1 2@2=1 3@3=1]");
    Fill.run(x, 5);
    Fill.run(x, 6);
    Fill.stones(x, 2);
    CHECK.dueRuns(x, 1, "");
    CHECK.dueRuns(x, 2, "[3@3=1 5@7=1 6@8=1 9@6=1]");
  }

  private static void way0OldestStonesGoAgainAndAgain() {
    SiltStore x = new SiltStore();
    x.setRoom(16);
    x.remove(5);
    x.put(6, 1);
    x.remove(8);
    x.snap();
    x.remove(5);
    x.remove(6);
    x.put(8, 1);
    x.flush();
    CHECK.dueRuns(x, 0, "[5@4- 5@1- 6@5- 6@2=1 8@6=1 8@3-]");
    Fill.stones(x, 8);
    CHECK.dueRuns(x, 1, "[6@5- 6@2=1]");
    CHECK.due("stones", x.stones(), 1);
  }

  private static void way0SnapshotsKeepEntries() {
    SiltStore x = new SiltStore();
    x.setRoom(16);
    x.put(1, 1);
    x.put(1, 2);
    x.snap();
    x.put(1, 3);
    x.put(1, 4);
    x.flush();
    CHECK.dueRuns(x, 0, "[1@4=4 1@2=2]");
    x.put(1, 5);
    x.snap();
    x.put(1, 6);
    x.flush();
    CHECK.dueRuns(x, 1, "[1@6=6 1@5=5 1@2=2]");
    x.release(0);
    Fill.run(x, 2);
    Fill.run(x, 3);
    CHECK.dueRuns(x, 2, "[1@6=6 1@5=5 2@7=1 3@8=1]");
  }

  private static void way1GoesDownInPieces() {
    SiltStore x = new SiltStore();
    x.setWay(1, 2, 2);
    x.setRoom(16);
    Fill.run(x, 10, 20);
    CHECK.dueRuns(x, 0, "[10@1=1 20@2=1]");
    Fill.run(x, 30, 40);
    CHECK.dueRuns(x, 1, "[10@1=1 20@2=1][30@3=1 40@4=1]");
    CHECK.due("mark", x.mark(1), -1);
    CHECK.dueCounted(x, 0, 0, 0, 4, 1, 8);
    Fill.run(x, 15, 16);
    Fill.run(x, 17);
    CHECK.dueRuns(x, 1, "[20@2=1][30@3=1 40@4=1]");
    CHECK.dueRuns(x, 2, "[10@1=1 15@5=1][16@6=1 17@7=1]");
    CHECK.due("mark", x.mark(1), 17);
    CHECK.dueCounted(x, 0, 0, 0, 7, 4, 20);
    Fill.stones(x, 15);
    Fill.stones(x, 35);
    CHECK.dueRuns(x, 1, "[15@8- 20@2=1][30@3=1 40@4=1]");
    CHECK.dueCounted(x, 0, 0, 0, 9, 5, 26);
    Fill.run(x, 50);
    Fill.run(x, 60);
    CHECK.dueRuns(x, 1, "[15@8- 20@2=1][50@10=1 60@11=1]");
    CHECK.dueRuns(x, 2, "[10@1=1 15@5=1][16@6=1 17@7=1][30@3=1 40@4=1]");
    CHECK.due("mark", x.mark(1), 40);
    CHECK.dueCounted(x, 0, 0, 0, 11, 7, 32);
    way1GoesOnFromTheFirst(x);
  }

  private static void way1GoesOnFromTheFirst(SiltStore x) {
    Fill.run(x, 5);
    Fill.run(x, 6);
    CHECK.due("mark", x.mark(1), 60);
    CHECK.due("mark", x.mark(2), -1);
    Fill.run(x, 7);
    Fill.run(x, 8);
    CHECK.dueRuns(x, 1, "[7@14=1 8@15=1][15@8- 20@2=1]");
    CHECK.dueRuns(x, 2, "[10@1=1 15@5=1][16@6=1 17@7=1][30@3=1 40@4=1][50@10=1 60@11=1]");
    CHECK.dueRuns(x, 3, "[5@12=1 6@13=1]");
    CHECK.due("mark", x.mark(1), 6);
    CHECK.due("mark", x.mark(2), 6);
    CHECK.dueCounted(x, 0, 0, 0, 15, 12, 46);
    Fill.run(x, 1);
    Fill.run(x, 2);
    CHECK.dueRuns(x, 1, "[1@16=1 2@17=1][15@8- 20@2=1]");
    CHECK.dueRuns(x, 3, "[5@12=1 6@13=1][7@14=1 8@15=1]");
    CHECK.due("mark", x.mark(2), 8);
    Fill.run(x, 3);
    Fill.run(x, 4);
    CHECK.dueRuns(x, 1, "[1@16=1 2@17=1][3@18=1 4@19=1]");
    CHECK.dueRuns(x, 2, "[10@1=1 16@6=1][17@7=1 20@2=1][30@3=1 40@4=1][50@10=1 60@11=1]");
    CHECK.due("mark", x.mark(1), 20);
    CHECK.due("mark(0)", x.mark(0), -1);
    CHECK.due("mark(3)", x.mark(3), -1);
    CHECK.due("stones", x.stones(), 0);
  }

  /** The RANGE of all RUNS of the level 0 is one: what lies between two of them is taken too, at its edges as well. */
  private static void way1TakesRangesTogether() {
    SiltStore x = new SiltStore();
    x.setWay(1, 2, 20);
    x.setRoom(16);
    Fill.run(x, 10, 20);
    Fill.run(x, 50, 60);
    CHECK.dueRuns(x, 1, "[10@1=1 20@2=1 50@3=1 60@4=1]");
    SiltStore y = new SiltStore();
    y.setWay(1, 3, 1);
    y.setRoom(16);
    Fill.run(y, 10);
    Fill.run(y, 20);
    Fill.run(y, 30);
    CHECK.dueRuns(y, 1, "[10@1=1][20@2=1][30@3=1]");
    int laid = y.counted(5);
    Fill.run(y, 10);
    Fill.run(y, 29);
    Fill.run(y, 12);
    // 10 and 20 met the range 10 to 29, so 10, 12, 20, 29 were laid, and one RUN after another went down then.
    CHECK.due("laid", y.counted(5), laid + 3 + 4 + 2);
    CHECK.dueRuns(y, 1, "[20@2=1][29@5=1][30@3=1]");
    CHECK.dueRuns(y, 2, "[10@4=1][12@6=1]");
    CHECK.due("mark", y.mark(1), 12);
    Fill.run(y, 12);
    Fill.run(y, 13);
    Fill.run(y, 14);
    // A least KEY that is the MARK is not greater: 12 stays, 13, 14 and 20 go.
    CHECK.dueRuns(y, 1, "[12@7=1][29@5=1][30@3=1]");
    CHECK.due("mark", y.mark(1), 20);
  }

  private static void way1PiecesHaveWholeKeys() {
    SiltStore x = new SiltStore();
    x.setWay(1, 2, 3);
    x.setRoom(16);
    for (int value = 1; value <= 4; value++) {
      x.put(1, value);
      x.snap();
    }
    x.put(2, 1);
    Fill.run(x, 3, 4, 5);
    x.release(0);
    x.release(1);
    x.snap();
    x.put(2, 2);
    Fill.run(x, 6);
    CHECK.due("runs", x.runs(0), 0);
    CHECK.dueRuns(x, 1, "[2@9=2 2@5=1 3@6=1][4@7=1 5@8=1 6@10=1]");
    CHECK.dueRuns(x, 2, "[1@4=4 1@3=3]");
    CHECK.due("mark", x.mark(1), 1);
    SiltStore y = new SiltStore();
    y.setWay(1, 4, 1);
    y.setRoom(16);
    y.put(1, 1);
    y.snap();
    y.put(1, 2);
    y.put(2, 2);
    y.flush();
    y.pack(0);
    CHECK.dueRuns(y, 3, "[1@2=2 1@1=1][2@3=2]");
  }

  private static void way1RangesMeetAtTheirEdges() {
    SiltStore x = new SiltStore();
    x.setWay(1, 2, 2);
    x.setRoom(16);
    Fill.run(x, 10, 20);
    Fill.run(x, 30, 40);
    Fill.run(x, 20);
    Fill.run(x, 30);
    CHECK.dueRuns(x, 1, "[10@1=1 20@5=1][30@6=1 40@4=1]");
    CHECK.dueCounted(x, 0, 0, 0, 6, 2, 4 + 4 + 2 + 4);
  }

  private static void way1StoneGoesUnderLevelsAbove() {
    SiltStore x = new SiltStore();
    x.setWay(1, 2, 1);
    x.setRoom(16);
    x.put(1, 1);
    x.snap();
    x.remove(1);
    x.flush();
    Fill.run(x, 50);
    CHECK.dueRuns(x, 2, "[1@2- 1@1=1]");
    x.release(0);
    Fill.run(x, 1);
    Fill.run(x, 2);
    Fill.run(x, 60);
    Fill.run(x, 61);
    CHECK.dueRuns(x, 1, "[1@4=1][61@7=1]");
    CHECK.dueRuns(x, 2, "[2@5=1][50@3=1][60@6=1]");
    CHECK.dueRuns(x, 3, "");
    CHECK.due("mark", x.mark(2), 1);
  }

  private static void way1StoneStaysOverLevelsBelow() {
    SiltStore x = new SiltStore();
    x.setWay(1, 2, 1);
    x.setRoom(16);
    Fill.run(x, 10, 20, 30);
    x.pack(0);
    CHECK.dueRuns(x, 3, "[10@1=1][20@2=1][30@3=1]");
    Fill.stones(x, 20);
    Fill.stones(x, 25);
    CHECK.dueRuns(x, 1, "[20@4-]");
    Fill.stones(x, 10);
    Fill.stones(x, 30);
    CHECK.dueRuns(x, 1, "[20@4-][30@7-]");
    CHECK.dueRuns(x, 2, "[10@6-]");
    CHECK.due("keys", x.keys(), 0);
    CHECK.due("pack(0)", x.pack(0), 6);
  }
}
