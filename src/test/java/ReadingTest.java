/** Promises 14, 16, 18 and 19: get, next, sum, keys. */
public final class ReadingTest {
  private static final Check CHECK = new Check();
  private static final int[] NO_KEYS = {-1, 10000, Integer.MIN_VALUE, Integer.MAX_VALUE};

  public static void main(String[] args) {
    promise14Get();
    promise14CountedWithoutFilter();
    promise14CountedWithFilter();
    promise16Next();
    promise18Sum();
    promise19Keys();
    CHECK.end();
  }

  /** In RUNS 0 and 5 are there, 7 is removed again, in the HAND 5 is removed and 9999 is put. */
  private static SiltStore mixed() {
    SiltStore x = new SiltStore();
    x.put(0, 0);
    x.put(5, 50);
    x.put(7, 70);
    x.flush();
    x.remove(7);
    x.put(3, 9999);
    x.flush();
    x.remove(5);
    x.put(9999, 1);
    return x;
  }

  private static void promise14Get() {
    SiltStore x = mixed();
    CHECK.due("get(0)", x.get(0), 0);
    CHECK.due("get(3)", x.get(3), 9999);
    CHECK.due("get(5)", x.get(5), -1);
    CHECK.due("get(7)", x.get(7), -1);
    CHECK.due("get(9999)", x.get(9999), 1);
    CHECK.due("get(1)", x.get(1), -1);
    for (int key : NO_KEYS) {
      CHECK.badArgument(x, "get(" + key + ")", () -> x.get(key));
    }
  }

  private static void promise14CountedWithoutFilter() {
    SiltStore x = new SiltStore();
    x.setWay(0, 4, 4);
    x.setFilter(0, 3);
    x.put(10, 1);
    x.put(20, 2);
    x.flush();
    x.remove(10);
    x.put(30, 3);
    x.flush();
    x.put(40, 4);
    CHECK.due("get in the hand", x.get(40), 4);
    CHECK.due("get below all ranges", x.get(9), -1);
    CHECK.due("get above all ranges", x.get(31), -1);
    CHECK.dueCounted(x, 0, 0, 0, 5, 0, 4);
    CHECK.due("get finds a stone first", x.get(10), -1);
    CHECK.dueCounted(x, 0, 1, 0, 5, 0, 4);
    CHECK.due("get in the second run", x.get(20), 2);
    CHECK.dueCounted(x, 0, 3, 1, 5, 0, 4);
    CHECK.due("get that both runs have in range", x.get(15), -1);
    CHECK.dueCounted(x, 0, 5, 3, 5, 0, 4);
    CHECK.due("get that one run has in range", x.get(25), -1);
    CHECK.dueCounted(x, 0, 6, 4, 5, 0, 4);
  }

  private static void promise14CountedWithFilter() {
    SiltStore x = new SiltStore();
    x.setFilter(64, 1);
    // 10 has the bit 37, 100 the bit 51, 15 the bit 52, 74 the bit 37.
    x.put(10, 1);
    x.put(100, 2);
    x.flush();
    CHECK.due("get(15)", x.get(15), -1);
    CHECK.dueCounted(x, 1, 0, 0, 2, 0, 2);
    CHECK.due("get(74)", x.get(74), -1);
    CHECK.dueCounted(x, 1, 1, 1, 2, 0, 2);
    CHECK.due("get(100)", x.get(100), 2);
    CHECK.dueCounted(x, 1, 2, 1, 2, 0, 2);
    CHECK.due("get(102) out of range", x.get(102), -1);
    CHECK.dueCounted(x, 1, 2, 1, 2, 0, 2);
  }

  private static void promise16Next() {
    SiltStore x = mixed();
    CHECK.due("next(-1)", x.next(-1), 0);
    CHECK.due("next(0)", x.next(0), 3);
    CHECK.due("next(2)", x.next(2), 3);
    CHECK.due("next(3)", x.next(3), 9999);
    CHECK.due("next(9998)", x.next(9998), 9999);
    CHECK.due("next(9999)", x.next(9999), -1);
    for (int key : new int[] {-2, 10000, Integer.MIN_VALUE, Integer.MAX_VALUE}) {
      CHECK.badArgument(x, "next(" + key + ")", () -> x.next(key));
    }
    x.remove(9999);
    CHECK.due("next(3)", x.next(3), -1);
    CHECK.dueCounted(x, 0, 0, 0, 8, 1, 3 + 2 + 3);
  }

  private static void promise18Sum() {
    SiltStore x = mixed();
    CHECK.due("sum(0, 9999)", x.sum(0, 9999), 10000);
    CHECK.due("sum(3, 3)", x.sum(3, 3), 9999);
    CHECK.due("sum(4, 9998)", x.sum(4, 9998), 0);
    CHECK.due("sum(0, 2)", x.sum(0, 2), 0);
    CHECK.due("sum(4, 9999)", x.sum(4, 9999), 1);
    x.put(5, 7);
    CHECK.due("sum(3, 5)", x.sum(3, 5), 10006);
    CHECK.due("sum(4, 5)", x.sum(4, 5), 7);
    for (int key : NO_KEYS) {
      CHECK.badArgument(x, "sum(" + key + ", 5)", () -> x.sum(key, 5));
      CHECK.badArgument(x, "sum(5, " + key + ")", () -> x.sum(5, key));
    }
    CHECK.badArgument(x, "sum(5, 4)", () -> x.sum(5, 4));
    CHECK.badArgument(x, "sum(9999, 0)", () -> x.sum(9999, 0));
    CHECK.dueCounted(x, 0, 0, 0, 8, 1, 3 + 2 + 3);
  }

  private static void promise19Keys() {
    SiltStore x = mixed();
    CHECK.due("keys", x.keys(), 3);
    x.put(5, 1);
    CHECK.due("keys", x.keys(), 4);
    x.flush();
    x.pack(0);
    CHECK.due("keys", x.keys(), 4);
    x.remove(0);
    x.remove(1);
    CHECK.due("keys", x.keys(), 3);
    CHECK.dueCounted(x, 0, 0, 0, 10, 2, 3 + 2 + 3 + 2 + 4);
  }
}
