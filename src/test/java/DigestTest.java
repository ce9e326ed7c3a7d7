import java.math.BigInteger;
import java.util.ArrayList;
import java.util.List;

/** Promise 37: the numbers in their order, and that d wraps around as a 64-bit integer. */
public final class DigestTest {
  private static final Check CHECK = new Check();

  public static void main(String[] args) {
    SiltStore empty = new SiltStore();
    digest("an empty store", empty);
    digest("a HAND alone", handAlone());
    for (int way = 0; way < 2; way++) {
      digest("RUNS on all levels", allLevels(way));
      digest("STONES and snapshots", stones(way));
    }
    bothSigns();
    dependsOnEachPart();
    CHECK.end();
  }

  private static SiltStore handAlone() {
    SiltStore x = Fill.store(0, 2, 4);
    x.setEvery(0);
    x.put(9999, 9999);
    x.put(0, 1);
    x.put(0, 2);
    x.sync();
    x.remove(5);
    return x;
  }

  private static SiltStore allLevels(int way) {
    SiltStore x = Fill.store(way, 2, 1);
    x.setRoom(1);
    for (int key = 1; key <= 15; key++) {
      x.setFilter(key % 3 == 0 ? 0 : 60 + key % 5, 1 + key % 3);
      x.put(key * 600, key);
    }
    x.get(600);
    x.get(650);
    x.get(1300);
    return x;
  }

  private static SiltStore stones(int way) {
    SiltStore x = Fill.store(way, 3, 2);
    Fill.run(x, 1, 2, 3);
    x.snap();
    x.snap();
    Fill.stones(x, 2, 4);
    x.put(3, 9999);
    x.release(0);
    return x;
  }

  /** All that the digest is made of, asked for in its order. */
  private static List<Integer> numbers(SiltStore x) {
    List<Integer> numbers = new ArrayList<>(
        List.of(x.hand(), x.log(), x.unsafe(), x.snapshots(), x.keys(), x.entries(), x.stones()));
    for (int what = 0; what <= 5; what++) {
      numbers.add(x.counted(what));
    }
    for (int level = 0; level < 4; level++) {
      numbers.addAll(List.of(x.runs(level), x.mark(level), x.wouldSave(level)));
      for (int run = 0; run < x.runs(level); run++) {
        numbers.addAll(List.of(x.size(level, run), x.bitsSet(level, run)));
        for (int place = 0; place < x.size(level, run); place++) {
          for (int what = 0; what <= 2; what++) {
            numbers.add(x.entry(level, run, place, what));
          }
        }
      }
    }
    numbers.add(x.sum(0, 9999));
    return numbers;
  }

  /** What d would be, if it did not wrap around. */
  private static BigInteger unwrapped(SiltStore x) {
    BigInteger d = BigInteger.valueOf(58046);
    for (int number : numbers(x)) {
      d = d.multiply(BigInteger.valueOf(31)).add(BigInteger.valueOf(number));
    }
    return d;
  }

  private static void digest(String told, SiltStore x) {
    BigInteger d = unwrapped(x);
    CHECK.due("d is too great for 64 bits, " + told, d.bitLength() > 64, true);
    CHECK.due("digest() of " + told, x.digest(), d.longValue());
    CHECK.due("digest() again of " + told, x.digest(), d.longValue());
  }

  /** Wrapped around, d is less than 0 as often as not. */
  private static void bothSigns() {
    SiltStore x = new SiltStore();
    int negative = 0;
    for (int i = 1; i <= 40; i++) {
      x.put(i, i);
      negative += x.digest() < 0 ? 1 : 0;
    }
    CHECK.due("some digests are less than 0", negative > 0, true);
    CHECK.due("some digests are greater than 0", negative < 40, true);
  }

  /** A change of a single number is a change of d. */
  private static void dependsOnEachPart() {
    SiltStore x = handAlone();
    long before = x.digest();
    x.snap();
    before = differs("snapshots()", x, before);
    x.sync();
    before = differs("unsafe()", x, before);
    x.flush();
    before = differs("hand()", x, before);
    x.get(0);
    before = differs("counted(1)", x, before);
    x.pack(0);
    differs("runs(3)", x, before);
  }

  private static long differs(String what, SiltStore x, long before) {
    long after = x.digest();
    CHECK.due("digest() behind a change of " + what, after != before, true);
    return after;
  }
}
