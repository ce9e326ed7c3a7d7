import java.lang.reflect.InvocationTargetException;
import java.lang.reflect.Method;

/** The 512 calls filled with the dearest ones, and that nothing but the promised is thrown, behind them as well. */
public final class LimitTest {
  private static final Check CHECK = new Check();
  private static final int[] NUMBERS = {Integer.MIN_VALUE, -2, -1, 0, 1, 2, 3, 4, 16, 9999, 10000, Integer.MAX_VALUE};

  public static void main(String[] args) throws Exception {
    allWrites(0, 2, 1, 16);
    allWrites(0, 4, 1, 1);
    allWrites(1, 2, 1, 1);
    allWrites(1, 4, 20, 16);
    allWrites(1, 4, 1, 16);
    manyRuns();
    nothingButWrites();
    each512thWriteIsTaken();
    anyNumbers();
    CHECK.end();
  }

  private static void allWrites(int way, int fan, int piece, int room) {
    SiltStore x = new SiltStore();
    Model m = new Model();
    x.setWay(way, fan, piece);
    m.setWay(way, fan, piece);
    x.setRoom(room);
    m.setRoom(room);
    for (int i = 0; i < 509; i++) {
      CHECK.due("put", x.put(i * 37 % 1000, i), m.put(i * 37 % 1000, i));
    }
    CHECK.due("digest", x.digest(), m.digest());
    for (int i = 0; i < 600; i++) {
      x.put(i, i);
      x.remove(i);
      x.flush();
      x.pack(0);
      x.digest();
    }
  }

  private static void manyRuns() {
    SiltStore x = new SiltStore();
    Model m = new Model();
    x.setWay(1, 4, 1);
    m.setWay(1, 4, 1);
    x.setRoom(16);
    m.setRoom(16);
    for (int i = 0; i < 254; i++) {
      x.put(i, i);
      m.put(i, i);
      CHECK.due("pack", x.pack(0), m.pack(0));
    }
    CHECK.due("digest", x.digest(), m.digest());
  }

  private static void nothingButWrites() {
    SiltStore x = new SiltStore();
    Model m = new Model();
    for (int i = 1; i <= 511; i++) {
      CHECK.due("put", x.put(9999 - i, i), m.put(9999 - i, i));
    }
    CHECK.due("digest", x.digest(), m.digest());
  }

  /** "At most 512 calls": the last one may be a WRITE as all others were, whatever it brings about. */
  private static void each512thWriteIsTaken() {
    SiltStore x = new SiltStore();
    for (int i = 1; i <= 512; i++) {
      CHECK.due("WRITE " + i, i % 2 == 0 ? x.remove(9999) : x.put(i, i), i);
    }
    CHECK.due("sum() as the 512th call", with511Writes().sum(0, 9999), 511);
    CHECK.due("keys() as the 512th call", with511Writes().keys(), 511);
    CHECK.due("get() as the 512th call", with511Writes().get(511), 1);
    CHECK.due("next() as the 512th call", with511Writes().next(510), 511);
    CHECK.due("flush() as the 512th call", with511Writes().flush(), 3);
    SiltStore z = new SiltStore();
    for (int i = 1; i <= 256; i++) {
      z.put(i, 1);
      CHECK.due("flush()", z.flush(), 1);
    }
  }

  private static SiltStore with511Writes() {
    SiltStore x = new SiltStore();
    Fill.puts(x, 1, 511);
    return x;
  }

  private static void anyNumbers() throws Exception {
    for (int way = 0; way < 2; way++) {
      SiltStore x = new SiltStore();
      x.setWay(way, 2, 1);
      for (int round = 0; round < 60; round++) {
        for (Method method : SiltStore.class.getMethods()) {
          if (method.getDeclaringClass() == SiltStore.class) {
            tryAll(x, method, round);
          }
        }
      }
    }
  }

  /** Calls it with numbers that differ from place to place and from round to round. */
  private static void tryAll(SiltStore x, Method method, int round) throws Exception {
    for (int first = 0; first < NUMBERS.length; first++) {
      Object[] numbers = new Object[method.getParameterCount()];
      for (int i = 0; i < numbers.length; i++) {
        numbers[i] = NUMBERS[(first + i * round + round / NUMBERS.length * i * i) % NUMBERS.length];
      }
      String thrown = "";
      try {
        method.invoke(x, numbers);
      } catch (InvocationTargetException e) {
        thrown = e.getCause().getClass().getSimpleName();
        for (Class<?> promised : method.getExceptionTypes()) {
          // What the machine throws is of a class below these, or of another one.
          thrown = e.getCause().getClass() == promised ? "" : thrown;
        }
      }
      CHECK.dueText(method.getName() + " throws what is not promised:", thrown, "");
    }
  }
}
