/** Term 5 at its edges, and promises 14 to 19, 34: what is found, what is passed by, and what is COUNTED. */
public final class ReadEdgeTest {
  private static final Check CHECK = new Check();

  public static void main(String[] args) {
    snapshotSeesItsOwnAge();
    snapshotOfEachAge();
    rangeOfARunHasBothItsEnds();
    runOfOneKey();
    skipWithoutAllBits();
    alarmOnlyWithoutAnyEntry();
    stoneEndsTheReading();
    handIsReadFirst();
    handIsTooNewForASnapshot();
    newestRunIsReadFirst();
    onlyGetsAreCounted();
    costIsWhatGetSearches();
    nextIsGreater();
    ranges();
    greatestSum();
    CHECK.end();
  }

  private static void snapshotSeesItsOwnAge() {
    SiltStore x = Fill.store(0, 2, 4);
    x.put(1, 10);
    x.snap();
    x.put(1, 11);
    CHECK.due("getAt(0, 1) of the HAND", x.getAt(0, 1), 10);
    CHECK.due("countAt(0, 1, 1)", x.countAt(0, 1, 1), 1);
    x.remove(1);
    x.snap();
    x.put(1, 12);
    CHECK.due("getAt(1, 1) of the HAND", x.getAt(1, 1), -1);
    CHECK.due("countAt(1, 1, 1)", x.countAt(1, 1, 1), 0);
    x.flush();
    CHECK.due("getAt(0, 1) of a RUN", x.getAt(0, 1), 10);
    CHECK.due("getAt(1, 1) of a RUN", x.getAt(1, 1), -1);
    CHECK.due("get(1) of a RUN", x.get(1), 12);
  }

  /** A SNAPSHOT behind each WRITE; three are there at a time, the newest WRITE is never seen by one. */
  private static void snapshotOfEachAge() {
    SiltStore x = new SiltStore();
    for (int i = 0; i < 30; i++) {
      int number = x.snap();
      x.put(3, i);
      for (int seen = Math.max(0, number - 2); seen <= number; seen++) {
        CHECK.due("getAt(" + seen + ", 3)", x.getAt(seen, 3), seen - 1);
      }
      if (number >= 2) {
        x.release(number - 2);
      }
    }
  }

  private static void rangeOfARunHasBothItsEnds() {
    SiltStore x = new SiltStore();
    x.setFilter(0, 1);
    Fill.run(x, 10, 15, 20);
    for (int key : new int[] {0, 9, 21, 9999}) {
      CHECK.due("cost(" + key + ")", x.cost(key), 0);
      CHECK.due("get(" + key + ")", x.get(key), -1);
    }
    CHECK.dueCounted(x, 0, 0, 0, 3, 0, 3);
    for (int key : new int[] {10, 11, 19, 20}) {
      CHECK.due("cost(" + key + ")", x.cost(key), 1);
      CHECK.due("get(" + key + ")", x.get(key), key % 10 == 0 ? 1 : -1);
    }
    CHECK.dueCounted(x, 0, 4, 2, 3, 0, 3);
    SiltStore y = new SiltStore();
    y.setFilter(64, 3);
    Fill.run(y, 10, 20);
    y.get(9);
    y.get(21);
    CHECK.dueCounted(y, 0, 0, 0, 2, 0, 2);
    y.get(11);
    y.get(19);
    CHECK.dueCounted(y, 2, 0, 0, 2, 0, 2);
  }

  private static void runOfOneKey() {
    for (int key : new int[] {0, 5, 9999}) {
      SiltStore x = new SiltStore();
      x.setFilter(0, 1);
      Fill.stones(x, key);
      CHECK.due("get(" + key + ") of a STONE", x.get(key), -1);
      x.get(key == 0 ? 1 : key - 1);
      x.get(key == 9999 ? 0 : key + 1);
      CHECK.dueCounted(x, 0, 1, 0, 1, 0, 1);
    }
  }

  /** In 16 bits, twice: 10 has 5 and 0, 20 has 3 and 2. */
  private static void skipWithoutAllBits() {
    SiltStore x = new SiltStore();
    Fill.run(x, 10, 20);
    // 12 has 11 and 10, none is set; 15 has 4 and 9; 14 has 1 and 4; 11 has 8 and 5: one is set, which is too few.
    x.get(12);
    x.get(11);
    CHECK.dueCounted(x, 2, 0, 0, 2, 0, 2);
    CHECK.due("mayHave(0, 0, 11)", x.mayHave(0, 0, 11), false);
    x.get(20);
    CHECK.dueCounted(x, 2, 1, 0, 2, 0, 2);
    // A RUN of 0, 10, 20, 100 has 7, 14, 5, 0, 3, 2, 3, 2; 26 has 5 and 0 as 10 has.
    SiltStore y = new SiltStore();
    Fill.run(y, 0, 10, 20, 100);
    y.get(26);
    CHECK.dueCounted(y, 0, 1, 1, 4, 0, 4);
  }

  /** "If the KEY has no ENTRY in it at all": one that is too new for the SNAPSHOT is one. */
  private static void alarmOnlyWithoutAnyEntry() {
    SiltStore x = new SiltStore();
    x.setFilter(0, 1);
    x.snap();
    Fill.run(x, 10, 20);
    CHECK.due("getAt(0, 10)", x.getAt(0, 10), -1);
    CHECK.dueCounted(x, 0, 1, 0, 2, 0, 2);
    CHECK.due("getAt(0, 15)", x.getAt(0, 15), -1);
    CHECK.dueCounted(x, 0, 2, 1, 2, 0, 2);
  }

  private static void stoneEndsTheReading() {
    SiltStore x = Fill.store(0, 4, 4);
    x.setFilter(0, 1);
    Fill.run(x, 5);
    Fill.stones(x, 5);
    CHECK.due("get(5)", x.get(5), -1);
    CHECK.dueCounted(x, 0, 1, 0, 2, 0, 2);
    x.remove(5);
    CHECK.due("get(5) of a STONE in the HAND", x.get(5), -1);
    CHECK.dueCounted(x, 0, 1, 0, 3, 0, 2);
    CHECK.due("cost(5)", x.cost(5), 0);
  }

  private static void handIsReadFirst() {
    SiltStore x = Fill.store(0, 4, 4);
    x.setFilter(0, 1);
    Fill.run(x, 5);
    x.put(5, 2);
    CHECK.due("get(5)", x.get(5), 2);
    x.put(5, 3);
    CHECK.due("get(5)", x.get(5), 3);
    CHECK.dueCounted(x, 0, 0, 0, 3, 0, 1);
  }

  private static void handIsTooNewForASnapshot() {
    SiltStore x = Fill.store(0, 4, 4);
    x.setFilter(0, 1);
    Fill.run(x, 5);
    x.snap();
    x.put(5, 2);
    CHECK.due("getAt(0, 5) goes on to the RUNS", x.getAt(0, 5), 1);
    CHECK.dueCounted(x, 0, 1, 0, 2, 0, 1);
    Fill.run(x, 4, 5);
    CHECK.due("getAt(0, 5) goes on to the next RUN", x.getAt(0, 5), 1);
    CHECK.dueCounted(x, 0, 3, 0, 4, 0, 3);
  }

  private static void newestRunIsReadFirst() {
    SiltStore x = Fill.store(0, 4, 4);
    x.setFilter(0, 1);
    for (int value = 1; value <= 3; value++) {
      x.put(5, value);
      x.flush();
      CHECK.due("get(5) of " + value + " RUNS", x.get(5), value);
      CHECK.due("cost(5)", x.cost(5), 1);
    }
    CHECK.dueCounted(x, 0, 3, 0, 3, 0, 3);
  }

  private static void onlyGetsAreCounted() {
    SiltStore x = Fill.store(0, 4, 4);
    x.setFilter(4, 1);
    x.put(5, 1);
    x.snap();
    Fill.run(x, 5, 50, 99);
    Fill.run(x, 6, 60, 99);
    x.next(5);
    x.countAt(0, 0, 9999);
    x.sum(0, 9999);
    x.keys();
    x.mayHave(0, 0, 50);
    x.entry(0, 0, 0, 0);
    x.wouldSave(0);
    x.amplification();
    x.digest();
    for (int key = 0; key < 100; key++) {
      x.cost(key);
      x.getSafe(key);
    }
    CHECK.dueCounted(x, 0, 0, 0, 7, 0, 7);
    // In 4 bits, once: 5, 50, 99, 6, 60 have 2, 1, 0, 1, 3; so the first RUN read has 0, 1, 3, the second one 2, 1, 0.
    CHECK.due("get(5) below the first RUN", x.get(5), 1);
    CHECK.dueCounted(x, 0, 1, 0, 7, 0, 7);
    CHECK.due("get(9)", x.get(9), -1);
    CHECK.dueCounted(x, 1, 2, 1, 7, 0, 7);
    CHECK.due("getAt(0, 5)", x.getAt(0, 5), 1);
    CHECK.dueCounted(x, 1, 3, 1, 7, 0, 7);
  }

  private static void costIsWhatGetSearches() {
    SiltStore x = Fill.store(0, 4, 4);
    x.setFilter(8, 2);
    for (int run = 0; run < 7; run++) {
      Fill.run(x, 10 + run, 40 - 3 * run, 20 + 7 * run % 11);
    }
    x.put(22, 1);
    for (int key = 0; key < 64; key++) {
      int before = x.counted(1);
      int cost = x.cost(key);
      x.get(key);
      CHECK.due("cost(" + key + ")", cost, x.counted(1) - before);
    }
  }

  private static void nextIsGreater() {
    SiltStore x = Fill.store(0, 2, 4);
    Fill.run(x, 0, 1, 5, 9999);
    CHECK.due("next(-1)", x.next(-1), 0);
    CHECK.due("next(0): greater than that", x.next(0), 1);
    CHECK.due("next(1)", x.next(1), 5);
    CHECK.due("next(4)", x.next(4), 5);
    CHECK.due("next(5)", x.next(5), 9999);
    CHECK.due("next(9998)", x.next(9998), 9999);
    CHECK.due("next(9999)", x.next(9999), -1);
    x.remove(0);
    x.remove(5);
    CHECK.due("next(-1) of a KEY that is not THERE", x.next(-1), 1);
    CHECK.due("next(1) of a KEY that is not THERE", x.next(1), 9999);
    x.remove(9999);
    CHECK.due("next(1)", x.next(1), -1);
    x.put(3, 0);
    CHECK.due("next(1) of a VALUE 0", x.next(1), 3);
  }

  /** "From the one to the other one, both counted." */
  private static void ranges() {
    SiltStore x = Fill.store(0, 2, 4);
    x.put(0, 1);
    x.put(10, 20);
    x.put(20, 300);
    x.put(9999, 4000);
    x.snap();
    range(x, 0, 0, 1, 1);
    range(x, 10, 10, 1, 20);
    range(x, 10, 20, 2, 320);
    range(x, 9, 21, 2, 320);
    range(x, 11, 19, 0, 0);
    range(x, 10, 19, 1, 20);
    range(x, 11, 20, 1, 300);
    range(x, 9999, 9999, 1, 4000);
    range(x, 20, 9999, 2, 4300);
    range(x, 20, 9998, 1, 300);
    range(x, 0, 9999, 4, 4321);
    range(x, 1, 9, 0, 0);
  }

  private static void range(SiltStore x, int from, int to, int count, int sum) {
    CHECK.due("countAt(0, " + from + ", " + to + ")", x.countAt(0, from, to), count);
    CHECK.due("sum(" + from + ", " + to + ")", x.sum(from, to), sum);
  }

  /** As many KEYS with the greatest VALUE as 512 calls allow. */
  private static void greatestSum() {
    SiltStore x = new SiltStore();
    for (int i = 0; i < 508; i++) {
      x.put(9999 - i, 9999);
    }
    CHECK.due("sum(0, 9999)", x.sum(0, 9999), 508 * 9999);
    CHECK.due("keys()", x.keys(), 508);
    CHECK.due("next(-1)", x.next(-1), 9492);
  }
}
