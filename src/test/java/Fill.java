/** Ways to fill a store that several tests share. */
final class Fill {
  private Fill() {
  }

  /** An empty store with a HAND of 16, so that it is FLUSHED only where a test says so. */
  static SiltStore store(int way, int fan, int piece) {
    SiltStore x = new SiltStore();
    x.setWay(way, fan, piece);
    x.setRoom(16);
    return x;
  }

  /** Puts the KEYS, each with the VALUE 1, and FLUSHES. */
  static void run(SiltStore x, int... keys) {
    for (int key : keys) {
      x.put(key, 1);
    }
    x.flush();
  }

  /** Removes the KEYS and FLUSHES. */
  static void stones(SiltStore x, int... keys) {
    for (int key : keys) {
      x.remove(key);
    }
    x.flush();
  }

  /** Puts KEYS one behind the other, each with the VALUE 1. */
  static void puts(SiltStore x, int from, int count) {
    for (int i = 0; i < count; i++) {
      x.put(from + i, 1);
    }
  }

  /** A RUN of five ENTRIES of one KEY, which four SNAPSHOTS keep; there are no other SNAPSHOTS then. */
  static void five(SiltStore x, int key) {
    x.crash();
    for (int i = 0; i < 4; i++) {
      x.put(key, 1);
      x.snap();
    }
    run(x, key);
  }

  static int entriesOn(SiltStore x, int level) {
    int entries = 0;
    int runs = x.runs(level);
    for (int run = 0; run < runs; run++) {
      entries += x.size(level, run);
    }
    return entries;
  }
}
