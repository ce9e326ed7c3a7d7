import java.util.ArrayList;
import java.util.Comparator;
import java.util.List;
import java.util.TreeMap;
import java.util.TreeSet;

/** The document once more, word by word and without any thrift, for ModelTest to compare with. */
public final class Model {
  private static final class Entry {
    final int key;
    final int age;
    final int value;

    Entry(int key, int age, int value) {
      this.key = key;
      this.age = age;
      this.value = value;
    }
  }

  private static final class Run {
    final List<Entry> entries;
    final int bits;
    final int hashes;
    final TreeSet<Integer> set = new TreeSet<>();

    Run(List<Entry> entries, int bits, int hashes) {
      this.entries = entries;
      this.bits = bits;
      this.hashes = hashes;
      for (Entry e : entries) {
        set.addAll(bitsOf(e.key));
      }
    }

    TreeSet<Integer> bitsOf(int key) {
      TreeSet<Integer> numbers = new TreeSet<>();
      for (int j = 1; bits != 0 && j <= hashes; j++) {
        numbers.add((key * (2 * j + 1) + 7 * j) % bits);
      }
      return numbers;
    }

    boolean has(int key) {
      return entries.stream().anyMatch(e -> e.key == key);
    }

    int least() {
      return entries.get(0).key;
    }

    int greatest() {
      return entries.get(entries.size() - 1).key;
    }

    boolean meets(int from, int to) {
      return least() <= to && from <= greatest();
    }
  }

  private int room = 4;
  private int way = 0;
  private int fan = 2;
  private int piece = 4;
  private int bits = 16;
  private int hashes = 2;
  private int every = 1;
  private int age = 0;
  private int safeAge = 0;
  private int nextSnapshot = 0;
  private final TreeMap<Integer, Integer> snapshots = new TreeMap<>();
  private final List<Entry> log = new ArrayList<>();
  private final List<List<Run>> levels = new ArrayList<>();
  private final int[] marks = {-1, -1, -1, -1};
  private final int[] counted = new int[6];

  public Model() {
    for (int level = 0; level < 4; level++) {
      levels.add(new ArrayList<>());
    }
  }

  private static void need(boolean right) {
    if (!right) {
      throw new IllegalArgumentException();
    }
  }

  private static void there(boolean right) {
    if (!right) {
      throw new IndexOutOfBoundsException();
    }
  }

  private static boolean isKey(int key) {
    return 0 <= key && key <= 9999;
  }

  public int setRoom(int room) {
    need(1 <= room && room <= 16);
    int before = this.room;
    this.room = room;
    return before;
  }

  public int setWay(int way, int fan, int piece) {
    need(0 <= way && way <= 1 && 2 <= fan && fan <= 4 && 1 <= piece && piece <= 20);
    for (List<Run> level : levels) {
      if (!level.isEmpty()) {
        throw new IllegalStateException();
      }
    }
    int before = this.way;
    this.way = way;
    this.fan = fan;
    this.piece = piece;
    return before;
  }

  public int setFilter(int bits, int hashes) {
    need((bits == 0 || 4 <= bits && bits <= 64) && 1 <= hashes && hashes <= 3);
    int before = this.bits;
    this.bits = bits;
    this.hashes = hashes;
    return before;
  }

  public int setEvery(int every) {
    need(0 <= every && every <= 20);
    int before = this.every;
    this.every = every;
    return before;
  }

  public int put(int key, int value) {
    need(isKey(key) && isKey(value));
    return write(key, value);
  }

  public int remove(int key) {
    need(isKey(key));
    return write(key, -1);
  }

  private int write(int key, int value) {
    age++;
    counted[3]++;
    log.add(new Entry(key, age, value));
    if (every != 0 && age % every == 0) {
      safeAge = age;
    }
    if (handEntries().size() >= room || log.size() == 40) {
      flush();
    }
    return age;
  }

  public int sync() {
    int before = unsafe();
    safeAge = age;
    return before;
  }

  public int flush() {
    List<Entry> entries = handEntries();
    log.clear();
    if (!entries.isEmpty()) {
      levels.get(0).add(0, lay(entries));
    }
    settle();
    return entries.size();
  }

  public int pack(int level) {
    there(0 <= level && level < 4);
    int before = entries();
    List<Run> all = packed(level);
    if (all.isEmpty()) {
      return 0;
    }
    List<Entry> left = merge(all, new ArrayList<>());
    counted[4]++;
    for (List<Run> runs : levels) {
      runs.removeAll(all);
    }
    levels.get(3).addAll(layAll(left));
    return before - entries();
  }

  private List<Run> packed(int level) {
    List<Run> all = new ArrayList<>();
    for (int l = way == 1 ? 0 : level; l < 4; l++) {
      all.addAll(levels.get(l));
    }
    return all;
  }

  public int crash() {
    int lost = unsafe();
    log.removeIf(e -> e.age > safeAge);
    snapshots.clear();
    return lost;
  }

  public int snap() {
    if (snapshots.size() == 4) {
      throw new IllegalStateException();
    }
    snapshots.put(nextSnapshot, age);
    return nextSnapshot++;
  }

  public int release(int snapshot) {
    there(snapshots.containsKey(snapshot));
    snapshots.remove(snapshot);
    return snapshots.size();
  }

  private List<Entry> needed(List<Entry> among) {
    List<Entry> needed = new ArrayList<>();
    for (Entry e : among) {
      boolean is = newest(among, e.key, Integer.MAX_VALUE) == e;
      for (int seen : snapshots.values()) {
        is |= newest(among, e.key, seen) == e;
      }
      if (is) {
        needed.add(e);
      }
    }
    needed.sort(Comparator.<Entry>comparingInt(e -> e.key).thenComparingInt(e -> -e.age));
    return needed;
  }

  private static Entry newest(List<Entry> among, int key, int limit) {
    Entry newest = null;
    for (Entry e : among) {
      if (e.key == key && e.age <= limit && (newest == null || e.age > newest.age)) {
        newest = e;
      }
    }
    return newest;
  }

  private List<Entry> handEntries() {
    return needed(log);
  }

  private Run lay(List<Entry> entries) {
    counted[5] += entries.size();
    return new Run(entries, bits, hashes);
  }

  private List<Entry> merge(List<Run> merged, List<Run> behind) {
    List<Entry> all = new ArrayList<>();
    for (Run run : merged) {
      all.addAll(run.entries);
    }
    List<Entry> left = needed(all);
    TreeSet<Integer> keys = new TreeSet<>();
    for (Entry e : left) {
      keys.add(e.key);
    }
    for (int key : keys) {
      while (behind.stream().noneMatch(run -> run.has(key))) {
        Entry oldest = null;
        for (Entry e : left) {
          oldest = e.key == key && (oldest == null || e.age < oldest.age) ? e : oldest;
        }
        if (oldest == null || oldest.value != -1) {
          break;
        }
        left.remove(oldest);
      }
    }
    return left;
  }

  private List<Run> layAll(List<Entry> entries) {
    List<Run> made = new ArrayList<>();
    List<Entry> piecemeal = new ArrayList<>();
    for (int i = 0; i < entries.size(); i++) {
      List<Entry> ofKey = new ArrayList<>();
      ofKey.add(entries.get(i));
      while (i + 1 < entries.size() && entries.get(i + 1).key == entries.get(i).key) {
        ofKey.add(entries.get(++i));
      }
      if (way == 1 && !piecemeal.isEmpty() && piecemeal.size() + ofKey.size() > piece) {
        made.add(lay(piecemeal));
        piecemeal = new ArrayList<>();
      }
      piecemeal.addAll(ofKey);
    }
    if (!piecemeal.isEmpty()) {
      made.add(lay(piecemeal));
    }
    return made;
  }

  private int entriesOn(int level) {
    return levels.get(level).stream().mapToInt(run -> run.entries.size()).sum();
  }

  private boolean full(int level) {
    if (way == 0 || level == 0) {
      return levels.get(level).size() >= fan;
    }
    int most = piece;
    for (int i = 0; i < level; i++) {
      most *= fan;
    }
    return level < 3 && entriesOn(level) > most;
  }

  private void settle() {
    for (int level = 0; level < 4; level++) {
      if (full(level)) {
        settle(level);
        level = -1;
      }
    }
  }

  private void settle(int level) {
    List<Run> here = levels.get(level);
    List<Run> merged = new ArrayList<>(here);
    int to = Math.min(level + 1, 3);
    if (way == 1 && level > 0) {
      Run taken = here.get(0);
      for (int i = here.size() - 1; i >= 0; i--) {
        taken = here.get(i).least() > marks[level] ? here.get(i) : taken;
      }
      marks[level] = taken.greatest();
      merged = new ArrayList<>(List.of(taken));
    }
    int deepest = level;
    if (way == 1) {
      int least = merged.stream().mapToInt(Run::least).min().getAsInt();
      int greatest = merged.stream().mapToInt(Run::greatest).max().getAsInt();
      for (Run run : levels.get(to)) {
        if (run.meets(least, greatest)) {
          merged.add(run);
          deepest = to;
        }
      }
    }
    List<Run> behind = new ArrayList<>(levels.get(deepest));
    behind.removeAll(merged);
    for (int l = deepest + 1; l < 4; l++) {
      behind.addAll(levels.get(l));
    }
    List<Entry> left = merge(merged, behind);
    counted[4]++;
    for (List<Run> runs : levels) {
      runs.removeAll(merged);
    }
    levels.get(to).addAll(0, layAll(left));
    if (way == 1) {
      levels.get(to).sort(Comparator.comparingInt(Run::least));
    }
  }

  private Entry read(int key, int limit, int[] counts) {
    Entry found = newest(handEntries(), key, limit);
    return found != null ? found : readRuns(key, limit, counts);
  }

  private Entry readRuns(int key, int limit, int[] counts) {
    for (List<Run> level : levels) {
      for (Run run : level) {
        if (!run.meets(key, key)) {
          continue;
        }
        if (run.bits != 0 && !run.set.containsAll(run.bitsOf(key))) {
          counts[0]++;
          continue;
        }
        counts[1]++;
        counts[2] += run.has(key) ? 0 : 1;
        Entry found = newest(run.entries, key, limit);
        if (found != null) {
          return found;
        }
      }
    }
    return null;
  }

  private static int valueOf(Entry e) {
    return e == null ? -1 : e.value;
  }

  public int get(int key) {
    need(isKey(key));
    return valueOf(read(key, age, counted));
  }

  public int getAt(int snapshot, int key) {
    there(snapshots.containsKey(snapshot));
    need(isKey(key));
    return valueOf(read(key, snapshots.get(snapshot), counted));
  }

  private TreeMap<Integer, Integer> has(int limit) {
    TreeSet<Integer> keys = new TreeSet<>();
    log.forEach(e -> keys.add(e.key));
    levels.forEach(level -> level.forEach(run -> run.entries.forEach(e -> keys.add(e.key))));
    TreeMap<Integer, Integer> has = new TreeMap<>();
    for (int key : keys) {
      int value = valueOf(read(key, limit, new int[6]));
      if (value != -1) {
        has.put(key, value);
      }
    }
    return has;
  }

  public int next(int key) {
    need(-1 <= key && key <= 9999);
    Integer next = has(age).higherKey(key);
    return next == null ? -1 : next;
  }

  public int countAt(int snapshot, int from, int to) {
    there(snapshots.containsKey(snapshot));
    need(isKey(from) && isKey(to) && from <= to);
    return has(snapshots.get(snapshot)).subMap(from, true, to, true).size();
  }

  public int sum(int from, int to) {
    need(isKey(from) && isKey(to) && from <= to);
    return has(age).subMap(from, true, to, true).values().stream().mapToInt(v -> v).sum();
  }

  public int keys() {
    return has(age).size();
  }

  public int hand() {
    return handEntries().size();
  }

  public int log() {
    return log.size();
  }

  public int unsafe() {
    return (int) log.stream().filter(e -> e.age > safeAge).count();
  }

  public int snapshots() {
    return snapshots.size();
  }

  public int runs(int level) {
    there(0 <= level && level < 4);
    return levels.get(level).size();
  }

  private Run run(int level, int run) {
    there(0 <= level && level < 4 && 0 <= run && run < levels.get(level).size());
    return levels.get(level).get(run);
  }

  public int size(int level, int run) {
    return run(level, run).entries.size();
  }

  public int entry(int level, int run, int place, int what) {
    Run r = run(level, run);
    there(0 <= place && place < r.entries.size());
    need(0 <= what && what <= 2);
    Entry e = r.entries.get(place);
    return new int[] {e.key, e.age, e.value}[what];
  }

  public int bitsSet(int level, int run) {
    Run r = run(level, run);
    return r.bits == 0 ? -1 : r.set.size();
  }

  public boolean mayHave(int level, int run, int key) {
    Run r = run(level, run);
    need(isKey(key));
    return r.bits == 0 || r.set.containsAll(r.bitsOf(key));
  }

  public int mark(int level) {
    there(0 <= level && level < 4);
    return marks[level];
  }

  public int entries() {
    return entriesOn(0) + entriesOn(1) + entriesOn(2) + entriesOn(3);
  }

  public int stones() {
    int stones = 0;
    for (List<Run> level : levels) {
      for (Run run : level) {
        stones += (int) run.entries.stream().filter(e -> e.value == -1).count();
      }
    }
    return stones;
  }

  public int counted(int what) {
    need(0 <= what && what <= 5);
    return counted[what];
  }

  public double amplification() {
    return counted[3] == 0 ? 0 : (double) counted[5] / counted[3];
  }

  public int cost(int key) {
    need(isKey(key));
    int[] counts = new int[6];
    read(key, age, counts);
    return counts[1];
  }

  public int wouldSave(int level) {
    there(0 <= level && level < 4);
    List<Run> all = packed(level);
    int before = all.stream().mapToInt(run -> run.entries.size()).sum();
    return before - merge(all, new ArrayList<>()).size();
  }

  public int getSafe(int key) {
    need(isKey(key));
    List<Entry> safe = new ArrayList<>(log);
    safe.removeIf(e -> e.age > safeAge);
    Entry found = newest(safe, key, age);
    return valueOf(found != null ? found : readRuns(key, age, new int[6]));
  }

  public long digest() {
    long[] d = {58046};
    add(d, hand(), log(), unsafe(), snapshots(), keys(), entries(), stones());
    add(d, counted);
    for (int level = 0; level < 4; level++) {
      add(d, runs(level), mark(level), wouldSave(level));
      for (int run = 0; run < runs(level); run++) {
        add(d, size(level, run), bitsSet(level, run));
        for (int place = 0; place < size(level, run); place++) {
          add(d, entry(level, run, place, 0), entry(level, run, place, 1), entry(level, run, place, 2));
        }
      }
    }
    add(d, sum(0, 9999));
    return d[0];
  }

  private static void add(long[] d, int... numbers) {
    for (int x : numbers) {
      d[0] = d[0] * 31 + x;
    }
  }
}
