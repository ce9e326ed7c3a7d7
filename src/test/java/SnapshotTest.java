/** Promises 12, 13, 15 and 17: snapshots, and what is read for them. */
public final class SnapshotTest {
  private static final Check CHECK = new Check();
  private static final int[] NO_KEYS = {-1, 10000, Integer.MIN_VALUE, Integer.MAX_VALUE};
  private static final int[] NO_SNAPSHOTS = {-1, 1, 6, Integer.MIN_VALUE, Integer.MAX_VALUE};

  public static void main(String[] args) {
    promise12Snap();
    promise13Release();
    promise13HandAfterRelease();
    promise15GetAt();
    promise15Counted();
    promise17CountAt();
    CHECK.end();
  }

  private static void promise12Snap() {
    SiltStore x = new SiltStore();
    for (int number = 0; number < 4; number++) {
      CHECK.due("snap", x.snap(), number);
    }
    CHECK.badState(x, "a fifth snap", x::snap);
    CHECK.due("snapshots", x.snapshots(), 4);
    x.release(2);
    CHECK.due("a number is not used again", x.snap(), 4);
    CHECK.badState(x, "a fifth snap", x::snap);
    x.crash();
    CHECK.due("a number is not used again", x.snap(), 5);
    // One taken ahead of all writes sees nothing.
    x.put(1, 1);
    CHECK.due("getAt", x.getAt(5, 1), -1);
  }

  private static void promise13Release() {
    SiltStore x = new SiltStore();
    CHECK.badPlace(x, "release without one", () -> x.release(0));
    x.snap();
    x.snap();
    x.snap();
    CHECK.due("release(1)", x.release(1), 2);
    for (int number : new int[] {1, 3, -1, Integer.MIN_VALUE, Integer.MAX_VALUE}) {
      CHECK.badPlace(x, "release(" + number + ")", () -> x.release(number));
    }
    CHECK.due("release(2)", x.release(2), 1);
    CHECK.due("release(0)", x.release(0), 0);
    CHECK.due("snapshots", x.snapshots(), 0);
  }

  private static void promise13HandAfterRelease() {
    SiltStore x = new SiltStore();
    x.setRoom(16);
    x.put(1, 1);
    x.snap();
    x.put(1, 2);
    x.snap();
    x.put(1, 3);
    CHECK.due("hand", x.hand(), 3);
    x.release(0);
    CHECK.due("hand", x.hand(), 2);
    x.snap();
    x.put(1, 4);
    CHECK.due("hand", x.hand(), 3);
    x.flush();
    CHECK.due("entries", x.entries(), 3);
    x.release(1);
    x.release(2);
    CHECK.due("runs stay as they are", x.entries(), 3);
    CHECK.due("what would be saved", x.wouldSave(0), 2);
    CHECK.dueRuns(x, 0, "[1@4=4 1@3=3 1@2=2]");
  }

  /** The SNAPSHOTS 0 and 2 to 5 were taken, 0 and 2 to 4 are there. */
  private static SiltStore withSnapshots() {
    SiltStore x = new SiltStore();
    x.setRoom(16);
    x.snap();
    x.snap();
    x.release(1);
    x.put(3, 30);
    x.put(9999, 99);
    x.snap();
    x.flush();
    x.remove(3);
    x.put(0, 5);
    x.snap();
    x.put(3, 33);
    x.snap();
    x.put(3, 34);
    return x;
  }

  private static void promise15GetAt() {
    SiltStore x = withSnapshots();
    CHECK.due("getAt(0, 3)", x.getAt(0, 3), -1);
    CHECK.due("getAt(2, 3)", x.getAt(2, 3), 30);
    CHECK.due("getAt(3, 3)", x.getAt(3, 3), -1);
    CHECK.due("getAt(4, 3)", x.getAt(4, 3), 33);
    CHECK.due("get(3)", x.get(3), 34);
    CHECK.due("getAt(2, 9999)", x.getAt(2, 9999), 99);
    CHECK.due("getAt(2, 0)", x.getAt(2, 0), -1);
    CHECK.due("getAt(3, 0)", x.getAt(3, 0), 5);
    for (int number : NO_SNAPSHOTS) {
      CHECK.badPlace(x, "getAt(" + number + ", 3)", () -> x.getAt(number, 3));
      CHECK.badPlace(x, "getAt(" + number + ", -1)", () -> x.getAt(number, -1));
    }
    for (int key : NO_KEYS) {
      CHECK.badArgument(x, "getAt(2, " + key + ")", () -> x.getAt(2, key));
    }
    x.flush();
    x.pack(0);
    CHECK.due("getAt(2, 3) in runs", x.getAt(2, 3), 30);
    CHECK.due("getAt(3, 3) in runs", x.getAt(3, 3), -1);
    CHECK.due("getAt(4, 3) in runs", x.getAt(4, 3), 33);
    CHECK.due("getAt(0, 3) in runs", x.getAt(0, 3), -1);
  }

  private static void promise15Counted() {
    SiltStore x = new SiltStore();
    x.setWay(0, 4, 4);
    x.setFilter(0, 1);
    x.put(10, 1);
    x.put(20, 1);
    x.flush();
    x.snap();
    x.put(10, 2);
    x.put(30, 2);
    x.flush();
    x.put(10, 3);
    CHECK.due("getAt(0, 10) passes a newer entry", x.getAt(0, 10), 1);
    CHECK.dueCounted(x, 0, 2, 0, 5, 0, 4);
    CHECK.due("getAt(0, 20)", x.getAt(0, 20), 1);
    CHECK.dueCounted(x, 0, 4, 1, 5, 0, 4);
    CHECK.due("getAt(0, 30)", x.getAt(0, 30), -1);
    CHECK.dueCounted(x, 0, 5, 1, 5, 0, 4);
    x.snap();
    CHECK.due("getAt(1, 10) in the hand", x.getAt(1, 10), 3);
    CHECK.dueCounted(x, 0, 5, 1, 5, 0, 4);
  }

  private static void promise17CountAt() {
    SiltStore x = withSnapshots();
    CHECK.due("countAt(0, 0, 9999)", x.countAt(0, 0, 9999), 0);
    CHECK.due("countAt(2, 0, 9999)", x.countAt(2, 0, 9999), 2);
    CHECK.due("countAt(3, 0, 9999)", x.countAt(3, 0, 9999), 2);
    CHECK.due("countAt(4, 0, 9999)", x.countAt(4, 0, 9999), 3);
    CHECK.due("countAt(4, 0, 3)", x.countAt(4, 0, 3), 2);
    CHECK.due("countAt(4, 1, 2)", x.countAt(4, 1, 2), 0);
    CHECK.due("countAt(4, 3, 3)", x.countAt(4, 3, 3), 1);
    CHECK.due("countAt(4, 4, 9998)", x.countAt(4, 4, 9998), 0);
    CHECK.due("countAt(3, 9999, 9999)", x.countAt(3, 9999, 9999), 1);
    for (int number : NO_SNAPSHOTS) {
      CHECK.badPlace(x, "countAt(" + number + ", 0, 9)", () -> x.countAt(number, 0, 9));
      CHECK.badPlace(x, "countAt(" + number + ", 9, 0)", () -> x.countAt(number, 9, 0));
    }
    for (int key : NO_KEYS) {
      CHECK.badArgument(x, "countAt(2, " + key + ", 5)", () -> x.countAt(2, key, 5));
      CHECK.badArgument(x, "countAt(2, 5, " + key + ")", () -> x.countAt(2, 5, key));
    }
    CHECK.badArgument(x, "countAt(2, 5, 4)", () -> x.countAt(2, 5, 4));
    CHECK.dueCounted(x, 0, 0, 0, 6, 0, 2);
  }
}
