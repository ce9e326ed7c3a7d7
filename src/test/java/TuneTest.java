/** What is set, at its least and its greatest: EVERY, BITS, HASHES and PIECE (ROOM and FAN are in FullTest). */
public final class TuneTest {
  private static final Check CHECK = new Check();

  public static void main(String[] args) {
    every0();
    every1();
    every20();
    everyGoesByAges();
    everyIsForWritesFromNowOn();
    writeThatFlushesIsSafe();
    bits0();
    filters();
    filtersStayWithTheirRuns();
    piece1();
    piece20();
    pieceOfOneKey();
    pieceIsOfWay1();
    fanAtFirst();
    CHECK.end();
  }

  private static void every0() {
    SiltStore x = Fill.store(0, 2, 4);
    CHECK.due("setEvery(0)", x.setEvery(0), 1);
    for (int i = 1; i < 40; i++) {
      x.put(1, i);
      CHECK.due("unsafe() with EVERY 0", x.unsafe(), i);
    }
    CHECK.due("getSafe(1)", x.getSafe(1), -1);
    CHECK.due("crash()", x.crash(), 39);
  }

  private static void every1() {
    SiltStore x = Fill.store(0, 2, 4);
    for (int i = 1; i < 40; i++) {
      x.put(1, i);
      CHECK.due("unsafe() with EVERY 1, at first", x.unsafe(), 0);
    }
    CHECK.due("getSafe(1)", x.getSafe(1), 39);
    CHECK.due("crash()", x.crash(), 0);
    CHECK.due("log()", x.log(), 39);
  }

  private static void every20() {
    SiltStore x = Fill.store(0, 2, 4);
    x.setEvery(20);
    for (int i = 1; i < 40; i++) {
      x.put(1, i);
      CHECK.due("unsafe() with EVERY 20 at " + i, x.unsafe(), i % 20);
    }
    CHECK.due("getSafe(1)", x.getSafe(1), 20);
    CHECK.due("crash()", x.crash(), 19);
    CHECK.due("get(1)", x.get(1), 20);
    CHECK.due("log()", x.log(), 20);
  }

  /** It is the AGE that is a multiple of EVERY, not how many WRITES the LOG has. */
  private static void everyGoesByAges() {
    SiltStore x = Fill.store(0, 4, 4);
    x.setEvery(5);
    Fill.puts(x, 1, 3);
    x.flush();
    x.put(1, 1);
    CHECK.due("unsafe() at the AGE 4", x.unsafe(), 1);
    x.put(1, 1);
    CHECK.due("unsafe() at the AGE 5", x.unsafe(), 0);
    Fill.puts(x, 1, 3);
    CHECK.due("crash() at the AGE 8", x.crash(), 3);
    x.put(1, 1);
    CHECK.due("unsafe() at the AGE 9", x.unsafe(), 1);
    x.put(1, 1);
    CHECK.due("unsafe() at the AGE 10", x.unsafe(), 0);
    CHECK.due("log()", x.log(), 4);
  }

  private static void everyIsForWritesFromNowOn() {
    SiltStore x = Fill.store(0, 2, 4);
    x.setEvery(0);
    Fill.puts(x, 1, 6);
    x.setEvery(3);
    CHECK.due("unsafe() behind setEvery(3)", x.unsafe(), 6);
    Fill.puts(x, 1, 2);
    CHECK.due("unsafe() at the AGE 8", x.unsafe(), 8);
    x.remove(1);
    CHECK.due("unsafe() at the AGE 9: all of the LOG", x.unsafe(), 0);
    x.setEvery(0);
    CHECK.due("unsafe() behind setEvery(0)", x.unsafe(), 0);
    x.put(1, 1);
    CHECK.due("unsafe()", x.unsafe(), 1);
  }

  /** "A WRITE that is not in the LOG any more is as safe as can be." */
  private static void writeThatFlushesIsSafe() {
    SiltStore x = new SiltStore();
    x.setEvery(0);
    Fill.puts(x, 1, 3);
    CHECK.due("getSafe(1) in the LOG", x.getSafe(1), -1);
    x.put(4, 1);
    CHECK.due("unsafe() behind the FLUSH", x.unsafe(), 0);
    CHECK.due("getSafe(1) in a RUN", x.getSafe(1), 1);
    x.put(1, 2);
    CHECK.due("crash()", x.crash(), 1);
    CHECK.due("keys()", x.keys(), 4);
    CHECK.due("get(1)", x.get(1), 1);
  }

  private static void bits0() {
    for (int hashes = 1; hashes <= 3; hashes++) {
      SiltStore x = new SiltStore();
      x.setFilter(0, hashes);
      Fill.run(x, 0, 9999);
      CHECK.due("bitsSet(0, 0) with BITS 0", x.bitsSet(0, 0), -1);
      for (int key : new int[] {0, 1, 5000, 9999}) {
        CHECK.due("mayHave(0, 0, " + key + ") with BITS 0", x.mayHave(0, 0, key), true);
      }
      x.get(1);
      CHECK.dueCounted(x, 0, 1, 1, 2, 0, 2);
    }
  }

  private static void filters() {
    for (int bits : new int[] {4, 5, 31, 32, 33, 63, 64}) {
      for (int hashes = 1; hashes <= 3; hashes++) {
        filter(bits, hashes, 0);
        filter(bits, hashes, 9999);
        filter(bits, hashes, 0, 1, 9999);
        filter(bits, hashes, 10, 20, 30, 40, 50, 60, 70, 80, 90);
      }
    }
  }

  private static void filter(int bits, int hashes, int... keys) {
    SiltStore x = Fill.store(0, 2, 4);
    x.setFilter(bits, hashes);
    Fill.run(x, keys);
    filterOf(x, 0, 0, bits, hashes);
  }

  private static int bitsOf(int flush) {
    return flush % 4 == 3 ? 0 : 64 - flush % 5 * 7;
  }

  private static int hashesOf(int flush) {
    return 1 + flush % 3;
  }

  private static void flushes(SiltStore x, int from, int to) {
    for (int flush = from; flush <= to; flush++) {
      x.setFilter(bitsOf(flush), hashesOf(flush));
      Fill.run(x, flush * 37, flush * 101);
    }
  }

  /** "If BITS was not 0 as it was made": RUNS with all sorts of FILTERS lie side by side, and some of them go. */
  private static void filtersStayWithTheirRuns() {
    SiltStore x = Fill.store(0, 3, 4);
    flushes(x, 1, 17);
    x.setFilter(4, 1);
    // With FAN 3 each third FLUSH made a RUN of the level 1, each ninth one of the level 2.
    filterOf(x, 0, 0, bitsOf(17), hashesOf(17));
    filterOf(x, 0, 1, bitsOf(16), hashesOf(16));
    filterOf(x, 1, 0, bitsOf(15), hashesOf(15));
    filterOf(x, 1, 1, bitsOf(12), hashesOf(12));
    filterOf(x, 2, 0, bitsOf(9), hashesOf(9));
    SiltStore y = Fill.store(0, 3, 4);
    flushes(y, 1, 26);
    y.setFilter(61, 3);
    y.pack(1);
    flushes(y, 27, 29);
    filterOf(y, 0, 0, bitsOf(29), hashesOf(29));
    filterOf(y, 0, 1, bitsOf(28), hashesOf(28));
    filterOf(y, 1, 0, bitsOf(27), hashesOf(27));
    filterOf(y, 3, 0, 61, 3);
  }

  /** The FILTER of a RUN has the bits of its KEYS, and no other ones, by the BITS and HASHES of its time. */
  private static void filterOf(SiltStore x, int level, int run, int bits, int hashes) {
    boolean[] set = new boolean[bits];
    int size = x.size(level, run);
    for (int place = 0; place < size; place++) {
      for (int j = 1; j <= hashes && bits > 0; j++) {
        set[(x.entry(level, run, place, 0) * (2 * j + 1) + 7 * j) % bits] = true;
      }
    }
    int count = 0;
    for (boolean bit : set) {
      count += bit ? 1 : 0;
    }
    String told = "RUN " + run + " of the level " + level;
    CHECK.due("bitsSet() of the " + told, x.bitsSet(level, run), bits == 0 ? -1 : count);
    // So many KEYS come to each number of a bit.
    for (int key = 0; key < Math.max(bits, 8); key++) {
      boolean all = true;
      for (int j = 1; j <= hashes && bits > 0; j++) {
        all &= set[(key * (2 * j + 1) + 7 * j) % bits];
      }
      CHECK.due("mayHave(" + key + ") of the " + told, x.mayHave(level, run, key), all);
    }
  }

  private static void piece1() {
    SiltStore x = Fill.store(1, 4, 1);
    Fill.run(x, 0, 5, 9999);
    x.pack(0);
    CHECK.dueRuns(x, 3, "[0@1=1][5@2=1][9999@3=1]");
  }

  private static void piece20() {
    for (int keys = 19; keys <= 41; keys++) {
      SiltStore x = Fill.store(1, 4, 20);
      Fill.puts(x, 1, keys);
      x.flush();
      x.pack(0);
      int last = (keys - 1) / 20;
      CHECK.due("runs(3) of " + keys + " KEYS with PIECE 20", x.runs(3), last + 1);
      CHECK.due("size(3, " + last + ")", x.size(3, last), keys - last * 20);
    }
  }

  /** "As many KEYS as go with all their ENTRIES into PIECE, but at least one KEY." */
  private static void pieceOfOneKey() {
    String all = "[7@6=5 7@5=4 7@4=3 7@3=2 7@2=1]";
    for (int piece = 1; piece <= 5; piece++) {
      SiltStore x = fiveOfOneKey(piece);
      CHECK.dueRuns(x, 3, "[1@1=0]" + all + "[9@7=6]");
    }
    String both = all.replace("]", " 9@7=6]");
    CHECK.dueRuns(fiveOfOneKey(6), 3, "[1@1=0 " + all.substring(1) + "[9@7=6]");
    CHECK.dueRuns(fiveOfOneKey(7), 3, "[1@1=0 " + both.substring(1));
  }

  /** On the level 3 the KEYS 1 and 9 with one ENTRY, and 7 with five, which the SNAPSHOTS keep. */
  private static SiltStore fiveOfOneKey(int piece) {
    SiltStore x = Fill.store(1, 4, piece);
    x.put(1, 0);
    for (int i = 1; i <= 5; i++) {
      x.put(7, i);
      if (i < 5) {
        x.snap();
      }
    }
    x.put(9, 6);
    x.flush();
    x.pack(0);
    return x;
  }

  private static void pieceIsOfWay1() {
    SiltStore x = Fill.store(0, 2, 1);
    Fill.run(x, 1, 2, 3);
    Fill.run(x, 4, 5, 6);
    CHECK.due("runs(1) with the WAY 0", x.runs(1), 1);
    CHECK.due("size(1, 0)", x.size(1, 0), 6);
    x.pack(0);
    CHECK.due("runs(3) with the WAY 0", x.runs(3), 1);
    CHECK.due("size(3, 0)", x.size(3, 0), 6);
  }

  private static void fanAtFirst() {
    SiltStore x = new SiltStore();
    Fill.run(x, 1);
    CHECK.due("runs(0)", x.runs(0), 1);
    Fill.run(x, 2);
    CHECK.due("runs(0) with FAN 2, at first", x.runs(0), 0);
    CHECK.due("runs(1)", x.runs(1), 1);
  }
}
