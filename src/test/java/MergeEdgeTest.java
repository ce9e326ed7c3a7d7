/** Terms 1 and 4 at their edges: what is NEEDED, which RANGES meet, the MARK, which STONES go, and what pack takes. */
public final class MergeEdgeTest {
  private static final Check CHECK = new Check();

  /**
   * RUNS from 10 to 20 and from 30 to 40, to which a RUN with two KEYS comes: these, what is there then with PIECE 2
   * (F and T for the AGES of the two), and how many ENTRIES were LAID for it.
   */
  private static final String[] MEETINGS = {
    "8 9: [8@F=1 9@T=1][10@1=1 20@2=1][30@3=1 40@4=1] 2",
    "9 10: [9@F=1 10@T=1][20@2=1][30@3=1 40@4=1] 3",
    "14 15: [10@1=1 14@F=1][15@T=1 20@2=1][30@3=1 40@4=1] 4",
    "20 21: [10@1=1 20@F=1][21@T=1][30@3=1 40@4=1] 3",
    "21 29: [10@1=1 20@2=1][21@F=1 29@T=1][30@3=1 40@4=1] 2",
    "29 30: [10@1=1 20@2=1][29@F=1 30@T=1][40@4=1] 3",
    "20 30: [10@1=1 20@F=1][30@T=1 40@4=1] 4",
    "40 41: [10@1=1 20@2=1][30@3=1 40@F=1][41@T=1] 3",
    "0 8000: [0@F=1 10@1=1][20@2=1 30@3=1][40@4=1 8000@T=1] 6",
  };

  public static void main(String[] args) {
    neededForTheSameAge();
    neededOnceForTwoSnapshots();
    neededNoMoreBehindRelease();
    neededAmongWhatIsMerged();
    for (String meeting : MEETINGS) {
      rangesOnLevel1(meeting);
      rangesOnLevel2(meeting);
      rangesOnLevel3(meeting);
    }
    rangesThatNothingMeets();
    markIsMinus1AtFirst();
    leastKeyAtTheMarkIsNotGreater();
    markGoesRound();
    nothingElseChangesTheMark();
    stonesFromTheOldestOn();
    stoneOverEachLevel();
    stoneUnderALevelAbove();
    packOfEachLevelWithTheWay0();
    packOfEachLevelWithTheWay1();
    packOfOneRun();
    CHECK.end();
  }

  /** "Whose AGE is not greater than that of the SNAPSHOT": the same AGE is not greater, the next one is. */
  private static void neededForTheSameAge() {
    SiltStore x = Fill.store(0, 2, 4);
    x.put(1, 1);
    x.put(1, 2);
    x.snap();
    x.put(1, 3);
    x.put(1, 4);
    CHECK.due("hand()", x.hand(), 2);
    x.flush();
    CHECK.dueRuns(x, 0, "[1@4=4 1@2=2]");
    SiltStore y = Fill.store(0, 2, 4);
    y.put(1, 1);
    y.put(2, 2);
    y.snap();
    y.put(1, 3);
    y.put(2, 4);
    y.flush();
    CHECK.dueRuns(y, 0, "[1@3=3 1@1=1 2@4=4 2@2=2]");
  }

  private static void neededOnceForTwoSnapshots() {
    SiltStore x = Fill.store(0, 2, 4);
    x.put(1, 1);
    x.snap();
    x.snap();
    x.put(2, 2);
    x.snap();
    x.put(1, 3);
    CHECK.due("hand()", x.hand(), 3);
    x.release(0);
    CHECK.due("hand() with one of them less", x.hand(), 3);
    x.release(1);
    CHECK.due("hand() with the last one", x.hand(), 3);
    x.release(2);
    CHECK.due("hand() without one", x.hand(), 2);
  }

  /** "RUNS stay as they are", till they are MERGED. */
  private static void neededNoMoreBehindRelease() {
    for (int crash = 0; crash < 2; crash++) {
      SiltStore x = Fill.store(0, 2, 4);
      x.put(1, 1);
      x.snap();
      Fill.run(x, 1);
      if (crash == 1) {
        x.crash();
      } else {
        x.release(0);
      }
      CHECK.dueRuns(x, 0, "[1@2=1 1@1=1]");
      Fill.run(x, 2);
      CHECK.dueRuns(x, 1, "[1@2=1 2@3=1]");
    }
  }

  /** A newer ENTRY on a level above is none of those that are MERGED, so the older one stays. */
  private static void neededAmongWhatIsMerged() {
    SiltStore x = Fill.store(0, 3, 4);
    for (int i = 0; i < 7; i++) {
      Fill.run(x, 1);
    }
    CHECK.dueRuns(x, 0, "[1@7=1]");
    CHECK.dueRuns(x, 1, "[1@6=1][1@3=1]");
    CHECK.due("pack(1)", x.pack(1), 1);
    CHECK.dueRuns(x, 0, "[1@7=1]");
    CHECK.dueRuns(x, 3, "[1@6=1]");
    x.snap();
    CHECK.due("pack(0)", x.pack(0), 1);
    CHECK.dueRuns(x, 3, "[1@7=1]");
  }

  private static int number(String meeting, int word) {
    return Integer.parseInt(meeting.replace(":", "").split(" ")[word]);
  }

  private static int laid(String meeting) {
    return Integer.parseInt(meeting.substring(meeting.lastIndexOf(' ') + 1));
  }

  private static String runs(String meeting, int from, int to) {
    String runs = meeting.substring(meeting.indexOf('['), meeting.lastIndexOf(']') + 1);
    return runs.replace("F", "" + from).replace("T", "" + to);
  }

  private static void rangesOnLevel1(String meeting) {
    SiltStore x = Fill.store(1, 3, 2);
    Fill.run(x, 10, 20);
    Fill.run(x, 30);
    Fill.run(x, 40);
    CHECK.dueRuns(x, 1, "[10@1=1 20@2=1][30@3=1 40@4=1]");
    Fill.run(x, number(meeting, 0));
    Fill.run(x, number(meeting, 1));
    Fill.run(x, number(meeting, 1));
    CHECK.dueRuns(x, 1, runs(meeting, 5, 7));
    CHECK.due("LAID on the level 1, " + meeting, x.counted(5), 4 + 4 + 3 + laid(meeting));
  }

  /** The level 1 takes six ENTRIES; five of one KEY push others down, and by them the MARK goes round. */
  private static void rangesOnLevel2(String meeting) {
    SiltStore x = Fill.store(1, 3, 2);
    Fill.run(x, 10, 20);
    Fill.run(x, 30, 40);
    Fill.five(x, 9999);
    CHECK.dueRuns(x, 2, "[10@1=1 20@2=1][30@3=1 40@4=1]");
    Fill.run(x, number(meeting, 0));
    Fill.run(x, number(meeting, 1));
    Fill.run(x, number(meeting, 1));
    CHECK.due("mark(1)", x.mark(1), 9999);
    CHECK.due("runs(1)", x.runs(1), 1);
    Fill.run(x, 9998);
    Fill.run(x, 9998);
    Fill.five(x, 9998);
    CHECK.due("mark(1)", x.mark(1), number(meeting, 1));
    String fives = "[9999@9=1 9999@8=1 9999@7=1 9999@6=1 9999@5=1]";
    CHECK.dueRuns(x, 2, runs(meeting, 10, 12) + fives);
    CHECK.due("LAID on the level 2, " + meeting, x.counted(5),
        9 + 9 + 2 + 2 + 3 + 2 + 5 + 7 + 5 + laid(meeting));
  }

  /** The level 1 takes four ENTRIES, the level 2 eight; two times five of one KEY push others down. */
  private static void rangesOnLevel3(String meeting) {
    SiltStore x = Fill.store(1, 2, 2);
    Fill.run(x, 10, 20);
    Fill.run(x, 30, 40);
    x.pack(0);
    CHECK.dueRuns(x, 3, "[10@1=1 20@2=1][30@3=1 40@4=1]");
    Fill.run(x, number(meeting, 0), number(meeting, 1));
    Fill.five(x, 9000);
    CHECK.due("runs(1)", x.runs(1), 0);
    CHECK.due("runs(2)", x.runs(2), 2);
    Fill.run(x, 9100);
    Fill.five(x, 9100);
    CHECK.due("mark(2)", x.mark(2), 9000);
    CHECK.dueRuns(x, 3, runs(meeting, 5, 6) + "[9000@11=1]");
    CHECK.due("LAID on the level 3, " + meeting, x.counted(5),
        4 + 4 + 4 + 7 + 7 + 7 + 6 + 5 + 5 + 1 + laid(meeting));
  }

  /** Two RUNS of the level 0 have one RANGE together, which meets what lies between them; else nothing is met. */
  private static void rangesThatNothingMeets() {
    SiltStore x = Fill.store(1, 2, 20);
    Fill.run(x, 10);
    Fill.run(x, 20);
    Fill.run(x, 21);
    Fill.run(x, 30);
    Fill.run(x, 9);
    Fill.run(x, 8);
    CHECK.dueRuns(x, 1, "[8@6=1 9@5=1][10@1=1 20@2=1][21@3=1 30@4=1]");
    Fill.run(x, 40);
    Fill.run(x, 25);
    CHECK.dueRuns(x, 1, "[8@6=1 9@5=1][10@1=1 20@2=1][21@3=1 25@8=1 30@4=1 40@7=1]");
    Fill.run(x, 9);
    Fill.run(x, 21);
    CHECK.dueRuns(x, 1, "[8@6=1 9@9=1 10@1=1 20@2=1 21@10=1 25@8=1 30@4=1 40@7=1]");
  }

  /** The KEY 0 is greater than -1, so its RUN goes first. */
  private static void markIsMinus1AtFirst() {
    SiltStore x = Fill.store(1, 2, 1);
    for (int level = 0; level < 4; level++) {
      CHECK.due("mark(" + level + ") at first", x.mark(level), -1);
    }
    Fill.run(x, 0);
    Fill.run(x, 1);
    CHECK.dueRuns(x, 1, "[0@1=1][1@2=1]");
    Fill.run(x, 1);
    Fill.run(x, 2);
    CHECK.dueRuns(x, 2, "[0@1=1]");
    CHECK.due("mark(1)", x.mark(1), 0);
    CHECK.due("mark(2)", x.mark(2), -1);
    for (int key = 2; key <= 9; key++) {
      Fill.run(x, key);
    }
    CHECK.due("mark(1)", x.mark(1), 7);
    CHECK.dueRuns(x, 3, "[0@1=1][1@3=1][2@5=1][3@6=1]");
    CHECK.due("mark(2)", x.mark(2), 3);
    CHECK.due("mark(0)", x.mark(0), -1);
    CHECK.due("mark(3)", x.mark(3), -1);
  }

  private static void leastKeyAtTheMarkIsNotGreater() {
    SiltStore x = Fill.store(1, 2, 1);
    Fill.run(x, 5);
    Fill.run(x, 6);
    Fill.run(x, 6);
    Fill.run(x, 7);
    CHECK.due("mark(1)", x.mark(1), 5);
    Fill.run(x, 5);
    Fill.run(x, 5);
    CHECK.dueRuns(x, 1, "[5@6=1][7@4=1]");
    CHECK.due("mark(1): 6 is greater than 5, 5 is not", x.mark(1), 6);
    Fill.run(x, 6);
    Fill.run(x, 6);
    CHECK.dueRuns(x, 1, "[5@6=1][6@8=1]");
    CHECK.due("mark(1): 7 is greater than 6, 6 is not", x.mark(1), 7);
    Fill.run(x, 7);
    Fill.run(x, 7);
    CHECK.dueRuns(x, 1, "[6@8=1][7@10=1]");
    CHECK.due("mark(1): none is greater than 7", x.mark(1), 5);
  }

  /** The MARK is the greatest KEY of the RUN that was taken, not the least one. */
  private static void markGoesRound() {
    SiltStore x = Fill.store(1, 2, 2);
    Fill.run(x, 10, 20);
    Fill.run(x, 30, 40);
    Fill.run(x, 50);
    Fill.run(x, 60);
    CHECK.due("mark(1)", x.mark(1), 20);
    Fill.run(x, 12);
    Fill.run(x, 15);
    CHECK.due("mark(1): 12 is not greater than 20", x.mark(1), 40);
    Fill.run(x, 13);
    Fill.run(x, 14);
    CHECK.due("mark(1)", x.mark(1), 60);
    CHECK.dueRuns(x, 1, "[12@7=1 13@9=1][14@10=1 15@8=1]");
    Fill.run(x, 16);
    Fill.run(x, 17);
    CHECK.due("mark(1): none is greater than 60", x.mark(1), 13);
    CHECK.dueRuns(x, 1, "[14@10=1 15@8=1][16@11=1 17@12=1]");
  }

  private static void nothingElseChangesTheMark() {
    SiltStore x = Fill.store(1, 2, 1);
    x.setRoom(1);
    Fill.puts(x, 1, 8);
    dueMarks(x, "a WRITE");
    x.setRoom(16);
    Fill.puts(x, 1, 3);
    dueMarks(x, "WRITES in the HAND");
    x.snap();
    x.release(0);
    x.sync();
    x.crash();
    dueMarks(x, "crash()");
    x.flush();
    dueMarks(x, "flush()");
    x.get(2);
    x.wouldSave(0);
    x.pack(0);
    dueMarks(x, "pack(0)");
    Fill.stones(x, 1, 2, 3, 4, 5, 6, 7, 8);
    x.pack(0);
    dueMarks(x, "a pack() that leaves nothing");
    x.setWay(0, 2, 4);
    dueMarks(x, "setWay(0, 2, 4)");
    for (int i = 0; i < 16; i++) {
      Fill.run(x, i);
    }
    dueMarks(x, "SETTLING with the WAY 0");
    x.pack(0);
    Fill.stones(x, 0, 1, 2, 3, 4, 5, 6, 7, 8, 9, 10, 11, 12, 13, 14);
    Fill.stones(x, 15);
    x.pack(0);
    x.setWay(1, 2, 1);
    dueMarks(x, "setWay(1, 2, 1)");
    // The MARK is 6 still: of 5, 6 and 7 on the level 1 the last one goes.
    Fill.run(x, 5, 6);
    Fill.run(x, 7);
    CHECK.due("mark(1)", x.mark(1), 7);
    CHECK.due("runs(1)", x.runs(1), 2);
    CHECK.due("entry(2, 0, 0, 0)", x.entry(2, 0, 0, 0), 7);
  }

  private static void dueMarks(SiltStore x, String behind) {
    CHECK.due("mark(1) behind " + behind, x.mark(1), 6);
    CHECK.due("mark(2) behind " + behind, x.mark(2), 2);
  }

  /** All ways in which three ENTRIES of one KEY can be STONES: "the oldest ENTRY goes, again and again". */
  private static void stonesFromTheOldestOn() {
    for (int stones = 0; stones < 8; stones++) {
      for (int way = 0; way < 2; way++) {
        int left = stones == 7 ? 0 : (stones & 1) == 0 ? 3 : (stones & 2) == 0 ? 2 : 1;
        SiltStore x = threeEntries(way, stones, false);
        CHECK.dueRuns(x, 0, "");
        CHECK.dueRuns(x, 1, (left == 0 ? "[" : "[" + threeEntries(stones, 2, left) + " ") + "9@5=1]");
        SiltStore y = threeEntries(way, stones, true);
        CHECK.dueRuns(y, 1, "[" + threeEntries(stones, 2, 3) + " 9@5=1]");
        CHECK.due("pack(0)", y.pack(0), 1 + 3 - left);
        CHECK.dueRuns(y, 3, (left == 0 ? "[" : "[" + threeEntries(stones, 2, left) + " ") + "9@5=1]");
      }
    }
  }

  /** The KEY 5 has an ENTRY on the level 3 (or 4 has), and three on the level 1, of which the bits tell the STONES. */
  private static SiltStore threeEntries(int way, int stones, boolean behind) {
    SiltStore x = Fill.store(way, 2, 20);
    Fill.run(x, behind ? 5 : 4);
    x.pack(0);
    for (int i = 0; i < 3; i++) {
      if ((stones >> i & 1) == 1) {
        x.remove(5);
      } else {
        x.put(5, i);
      }
      if (i < 2) {
        x.snap();
      }
    }
    x.flush();
    Fill.run(x, 9);
    return x;
  }

  private static String threeEntries(int stones, int first, int count) {
    StringBuilder text = new StringBuilder();
    for (int i = 2; i > 2 - count; i--) {
      text.append(i < 2 ? " 5@" : "5@").append(first + i);
      text.append((stones >> i & 1) == 1 ? "-" : "=" + i);
    }
    return text.toString();
  }

  /** With the WAY 1 a STONE stays over an ENTRY on any deeper level, and goes where that has come to it. */
  private static void stoneOverEachLevel() {
    SiltStore x = Fill.store(1, 2, 1);
    Fill.run(x, 5);
    Fill.run(x, 90);
    Fill.stones(x, 5);
    Fill.stones(x, 6);
    CHECK.dueRuns(x, 1, "[90@2=1]");
    SiltStore y = Fill.store(1, 2, 1);
    y.put(5, 1);
    y.snap();
    y.put(5, 2);
    Fill.run(y, 5);
    Fill.run(y, 90);
    CHECK.dueRuns(y, 2, "[5@3=1 5@1=1]");
    Fill.stones(y, 5);
    Fill.stones(y, 6);
    CHECK.dueRuns(y, 1, "[5@5-][90@4=1]");
    SiltStore z = Fill.store(1, 2, 1);
    Fill.run(z, 5);
    z.pack(0);
    Fill.stones(z, 5);
    Fill.stones(z, 6);
    CHECK.dueRuns(z, 1, "[5@2-]");
    CHECK.dueRuns(z, 2, "");
    z.pack(0);
    CHECK.due("entries()", z.entries(), 0);
  }

  /** "Comes behind": an ENTRY on a level above keeps no STONE. */
  private static void stoneUnderALevelAbove() {
    SiltStore x = Fill.store(0, 3, 4);
    Fill.run(x, 5);
    Fill.run(x, 5);
    Fill.run(x, 5);
    Fill.stones(x, 5);
    Fill.run(x, 6);
    Fill.run(x, 6);
    CHECK.dueRuns(x, 1, "[5@4- 6@6=1][5@3=1]");
    Fill.run(x, 5);
    CHECK.due("pack(1)", x.pack(1), 2);
    CHECK.dueRuns(x, 0, "[5@7=1]");
    CHECK.dueRuns(x, 3, "[6@6=1]");
  }

  /** With the WAY 0 one RUN on each level: a STONE of the KEY 1 on the levels 0 to 2, over an ENTRY on the level 3. */
  private static SiltStore fourLevels() {
    SiltStore x = Fill.store(0, 2, 4);
    Fill.run(x, 1);
    x.pack(0);
    for (int i = 0; i < 7; i++) {
      Fill.stones(x, 1);
    }
    return x;
  }

  private static void packOfEachLevelWithTheWay0() {
    String[] runs = {"[1@8-]", "[1@7-]", "[1@5-]", "[1@1=1]"};
    int[] saved = {4, 3, 2, 0};
    for (int level = 0; level < 4; level++) {
      SiltStore x = fourLevels();
      int mergings = x.counted(4);
      CHECK.due("wouldSave(" + level + ")", x.wouldSave(level), saved[level]);
      CHECK.due("pack(" + level + ")", x.pack(level), saved[level]);
      CHECK.due("MERGINGS", x.counted(4), mergings + 1);
      for (int l = 0; l < 4; l++) {
        CHECK.dueRuns(x, l, l < level || level == 3 ? runs[l] : "");
      }
    }
  }

  private static void packOfEachLevelWithTheWay1() {
    for (int level = 0; level < 4; level++) {
      SiltStore x = Fill.store(1, 2, 1);
      x.setRoom(1);
      Fill.puts(x, 1, 9);
      CHECK.due("runs(0)", x.runs(0), 1);
      CHECK.due("runs(1)", x.runs(1), 2);
      CHECK.due("runs(2)", x.runs(2), 4);
      CHECK.due("runs(3)", x.runs(3), 2);
      x.remove(1);
      CHECK.due("stones()", x.stones(), 1);
      CHECK.due("wouldSave(" + level + ")", x.wouldSave(level), 2);
      CHECK.due("pack(" + level + ")", x.pack(level), 2);
      CHECK.dueRuns(x, 3, "[2@2=1][3@3=1][4@4=1][5@5=1][6@6=1][7@7=1][8@8=1][9@9=1]");
      CHECK.due("entries()", x.entries(), 8);
    }
  }

  /** "If it had any RUN to take": one is enough, and none is not. */
  private static void packOfOneRun() {
    SiltStore x = Fill.store(0, 2, 4);
    x.pack(0);
    CHECK.dueCounted(x, 0, 0, 0, 0, 0, 0);
    Fill.run(x, 1, 2);
    x.pack(1);
    CHECK.dueCounted(x, 0, 0, 0, 2, 0, 2);
    CHECK.due("pack(0)", x.pack(0), 0);
    CHECK.dueRuns(x, 0, "");
    CHECK.dueRuns(x, 3, "[1@1=1 2@2=1]");
    CHECK.dueCounted(x, 0, 0, 0, 2, 1, 4);
    CHECK.due("pack(3)", x.pack(3), 0);
    CHECK.dueCounted(x, 0, 0, 0, 2, 2, 6);
  }
}
