/** Promises 32 to 37: what was counted, and what would be. */
public final class WouldBeTest {
  private static final Check CHECK = new Check();
  private static final int[] NO_KEYS = {-1, 10000, Integer.MIN_VALUE, Integer.MAX_VALUE};

  public static void main(String[] args) {
    promise32Counted();
    promise33Amplification();
    promise34Cost();
    promise35WouldSave();
    promise36GetSafe();
    promise37DigestOfNothing();
    promise37Digest();
    CHECK.end();
  }

  private static void promise32Counted() {
    SiltStore x = new SiltStore();
    x.setFilter(64, 1);
    x.put(10, 1);
    x.put(100, 2);
    x.flush();
    x.put(10, 2);
    x.flush();
    x.get(15);
    x.get(15);
    x.get(15);
    x.get(74);
    x.get(10);
    CHECK.dueCounted(x, 3, 2, 1, 3, 1, 5);
    for (int what : new int[] {-1, 6, Integer.MIN_VALUE, Integer.MAX_VALUE}) {
      CHECK.badArgument(x, "counted(" + what + ")", () -> x.counted(what));
    }
    x.setEvery(0);
    x.remove(1);
    x.crash();
    CHECK.due("writes that were lost count", x.counted(3), 4);
  }

  private static void promise33Amplification() {
    SiltStore x = new SiltStore();
    CHECK.dueReal("amplification without writes", x.amplification(), 0.0);
    x.put(1, 1);
    CHECK.dueReal("amplification", x.amplification(), 0.0);
    x.put(2, 1);
    x.put(3, 1);
    x.flush();
    CHECK.dueReal("amplification", x.amplification(), 1.0);
    x.put(3, 2);
    x.put(3, 3);
    x.put(3, 4);
    CHECK.dueReal("amplification", x.amplification(), 0.5);
    x.flush();
    CHECK.dueReal("amplification", x.amplification(), 7.0 / 6.0);
  }

  private static void promise34Cost() {
    SiltStore x = new SiltStore();
    x.setWay(0, 4, 4);
    x.setFilter(0, 1);
    x.put(10, 1);
    x.put(20, 1);
    x.flush();
    x.put(15, 1);
    x.put(25, 1);
    x.flush();
    x.setFilter(64, 1);
    x.put(10, 2);
    x.put(30, 1);
    x.flush();
    x.put(20, 9);
    // 25 has the bit 18, 10 and 30 have 37 and 33; 74 has 37 as well.
    CHECK.due("cost(20) in the hand", x.cost(20), 0);
    CHECK.due("cost(10)", x.cost(10), 1);
    CHECK.due("cost(15)", x.cost(15), 1);
    CHECK.due("cost(16)", x.cost(16), 2);
    CHECK.due("cost(11)", x.cost(11), 1);
    CHECK.due("cost(25)", x.cost(25), 1);
    CHECK.due("cost(26)", x.cost(26), 0);
    CHECK.due("cost(9)", x.cost(9), 0);
    CHECK.due("cost(9999)", x.cost(9999), 0);
    CHECK.dueCounted(x, 0, 0, 0, 7, 0, 6);
    for (int key : NO_KEYS) {
      CHECK.badArgument(x, "cost(" + key + ")", () -> x.cost(key));
    }
  }

  private static void promise35WouldSave() {
    SiltStore x = new SiltStore();
    CHECK.due("wouldSave(0) without runs", x.wouldSave(0), 0);
    x.setWay(0, 3, 2);
    for (int key = 1; key <= 3; key++) {
      x.put(key, key);
      x.flush();
    }
    x.remove(1);
    x.flush();
    x.put(2, 9);
    x.flush();
    long before = x.digest();
    CHECK.due("wouldSave(0)", x.wouldSave(0), 3);
    CHECK.due("wouldSave(1)", x.wouldSave(1), 0);
    CHECK.due("wouldSave(3)", x.wouldSave(3), 0);
    CHECK.due("digest", x.digest(), before);
    CHECK.dueCounted(x, 0, 0, 0, 5, 1, 8);
    for (int level : new int[] {-1, 4, Integer.MIN_VALUE, Integer.MAX_VALUE}) {
      CHECK.badPlace(x, "wouldSave(" + level + ")", () -> x.wouldSave(level));
    }
    CHECK.due("pack(0)", x.pack(0), 3);
    CHECK.due("wouldSave(0)", x.wouldSave(0), 0);
    SiltStore y = new SiltStore();
    y.setWay(1, 3, 2);
    y.remove(1);
    y.flush();
    for (int level = 0; level < 4; level++) {
      CHECK.due("wouldSave with the WAY 1", y.wouldSave(level), 1);
    }
  }

  private static void promise36GetSafe() {
    SiltStore x = new SiltStore();
    CHECK.due("getSafe", x.getSafe(1), -1);
    x.setEvery(0);
    x.setRoom(16);
    x.put(1, 1);
    CHECK.due("getSafe(1)", x.getSafe(1), -1);
    x.sync();
    CHECK.due("getSafe(1) of the only write", x.getSafe(1), 1);
    x.put(2, 2);
    x.flush();
    x.put(1, 3);
    x.put(1, 4);
    x.sync();
    x.put(1, 5);
    x.remove(2);
    x.put(3, 3);
    CHECK.due("getSafe(1)", x.getSafe(1), 4);
    CHECK.due("getSafe(2)", x.getSafe(2), 2);
    CHECK.due("getSafe(3)", x.getSafe(3), -1);
    CHECK.due("get(1)", x.get(1), 5);
    CHECK.due("get(2)", x.get(2), -1);
    CHECK.due("get(3)", x.get(3), 3);
    CHECK.due("getSafe(9999)", x.getSafe(9999), -1);
    CHECK.dueCounted(x, 0, 0, 0, 7, 0, 2);
    x.sync();
    CHECK.due("getSafe(2) of a stone that is safe", x.getSafe(2), -1);
    for (int key : NO_KEYS) {
      CHECK.badArgument(x, "getSafe(" + key + ")", () -> x.getSafe(key));
    }
    x.flush();
    CHECK.due("getSafe(1) of a run", x.getSafe(1), 5);
    CHECK.dueCounted(x, 0, 0, 0, 7, 1, 7);
  }

  private static long digestOf(long... numbers) {
    long d = 58046;
    for (long x : numbers) {
      d = d * 31 + x;
    }
    return d;
  }

  private static void promise37DigestOfNothing() {
    CHECK.due("digest", new SiltStore().digest(),
        digestOf(0, 0, 0, 0, 0, 0, 0, 0, 0, 0, 0, 0, 0, 0, -1, 0, 0, -1, 0, 0, -1, 0, 0, -1, 0, 0));
  }

  private static void promise37Digest() {
    SiltStore x = new SiltStore();
    x.setWay(1, 2, 1);
    x.setFilter(64, 1);
    x.setEvery(0);
    x.put(10, 5);
    x.put(20, 6);
    x.flush();
    x.put(30, 7);
    x.flush();
    x.setFilter(0, 1);
    x.remove(10);
    x.flush();
    x.put(1, 1);
    x.put(1, 2);
    x.put(40, 9);
    x.get(10);
    x.get(20);
    x.get(25);
    x.snap();
    long due = digestOf(
        2, 3, 3, 1, 4, 4, 1, 0, 2, 0, 7, 2, 8,
        1, -1, 2, 1, -1, 10, 4, -1,
        2, 10, 2, 1, 1, 20, 2, 6, 1, 1, 30, 3, 7,
        1, -1, 2, 1, 1, 10, 1, 5,
        0, -1, 2,
        24);
    CHECK.due("digest", x.digest(), due);
    CHECK.due("digest changes nothing", x.digest(), due);
    SiltStore y = new SiltStore();
    y.put(0, 7);
    CHECK.due("digest with a hand", y.digest(),
        digestOf(1, 1, 0, 0, 1, 0, 0, 0, 0, 0, 1, 0, 0, 0, -1, 0, 0, -1, 0, 0, -1, 0, 0, -1, 0, 7));
  }
}
