import java.lang.reflect.InvocationTargetException;
import java.lang.reflect.Method;
import java.util.ArrayList;
import java.util.List;

/** Long mixed runs of calls, each answered by the store and by the model of the document. */
public final class ModelTest {
  private static final int ROUNDS = 400;
  private static final int CALLS = 400;

  /** How often a call comes, beside the others; writing and setting come less and more by the round. */
  private static final String[] OFTEN = {
    "put 60", "remove 20", "get 12", "getAt 10", "flush 3", "pack 1", "crash 1", "snap 6", "release 5", "sync 3",
    "setRoom 1", "setFilter 2", "setEvery 1", "next 3", "countAt 3", "sum 2", "cost 4", "getSafe 4", "mayHave 4",
    "entry 4", "bitsSet 1", "size 1", "runs 1", "mark 1", "wouldSave 2", "counted 1", "keys 1", "hand 1", "log 1",
    "unsafe 1", "snapshots 1", "entries 1", "stones 1", "amplification 1", "digest 1", "setWay 1"
  };

  private final Check check = new Check();
  private final List<Method> ofStore = new ArrayList<>();
  private final List<Method> ofModel = new ArrayList<>();
  private long seed;
  private int newestSnapshot;

  public static void main(String[] args) throws Exception {
    new ModelTest().all();
  }

  private void all() throws Exception {
    for (String often : OFTEN) {
      String name = often.substring(0, often.indexOf(' '));
      for (Method m : SiltStore.class.getMethods()) {
        for (int i = 0; m.getName().equals(name) && i < Integer.parseInt(often.substring(name.length() + 1)); i++) {
          ofStore.add(m);
          ofModel.add(Model.class.getMethod(name, m.getParameterTypes()));
        }
      }
    }
    for (int round = 1; round <= ROUNDS && check.wrong() == 0; round++) {
      play(round);
    }
    check.end();
  }

  private int pick(int from, int to) {
    seed = seed * 6364136223846793005L + 1442695040888963407L;
    return from + (int) ((seed >>> 33) % (to - from + 1));
  }

  private void play(int round) throws Exception {
    seed = round;
    newestSnapshot = 0;
    SiltStore store = new SiltStore();
    Model model = new Model();
    int keys = new int[] {3, 8, 20, 60, 300}[round % 5];
    int[] way = {round / 5 % 2, pick(2, 4), pick(1, round % 3 == 0 ? 20 : 5)};
    int room = pick(1, round % 4 == 0 ? 16 : 5);
    check.due("setWay", store.setWay(way[0], way[1], way[2]), model.setWay(way[0], way[1], way[2]));
    check.due("setRoom", store.setRoom(room), model.setRoom(room));
    for (int call = 2; call < CALLS; call++) {
      int n = pick(0, ofStore.size() - 1);
      Object[] numbers = arguments(ofStore.get(n), keys);
      String told = "round " + round + ", call " + call + ", " + ofStore.get(n).getName() + List.of(numbers);
      String due = answer(ofModel.get(n), model, numbers);
      check.dueText(told, answer(ofStore.get(n), store, numbers), due);
      if (told.contains("snap[") && !due.contains("Exception")) {
        newestSnapshot = Integer.parseInt(due);
      }
      if (call % 4 == 0) {
        check.due("digest behind " + told, store.digest(), model.digest());
      }
    }
  }

  private static String answer(Method m, Object x, Object[] numbers) throws Exception {
    try {
      return String.valueOf(m.invoke(x, numbers));
    } catch (InvocationTargetException e) {
      return e.getCause().getClass().getName();
    }
  }

  private Object[] arguments(Method m, int keys) {
    Object[] numbers = new Object[m.getParameterCount()];
    for (int i = 0; i < numbers.length; i++) {
      numbers[i] = argument(m.getName(), i, keys);
    }
    return numbers;
  }

  private int argument(String name, int i, int keys) {
    if (pick(0, 199) == 0) {
      return new int[] {-1, -2, 10000, Integer.MAX_VALUE, Integer.MIN_VALUE}[pick(0, 4)];
    }
    switch (name) {
      case "setRoom": return pick(0, 17);
      case "setWay": return pick(i == 0 ? 0 : i == 1 ? 2 : 1, i == 0 ? 1 : 4);
      case "setFilter": return i == 0 ? (pick(0, 3) == 0 ? 0 : pick(3, 65)) : pick(1, 3);
      case "setEvery": return pick(0, 21);
      case "pack": case "runs": case "mark": case "wouldSave": return pick(0, 3);
      case "release": return snapshot();
      case "getAt": case "countAt": return i == 0 ? snapshot() : key(keys);
      case "size": case "bitsSet": return pick(0, 3);
      case "mayHave": return i < 2 ? pick(0, 3) : key(keys);
      case "entry": return i == 3 ? pick(0, 2) : pick(0, 3);
      case "counted": return pick(0, 5);
      case "put": return i == 1 ? pick(0, 9999) : key(keys);
      default: return key(keys);
    }
  }

  private int snapshot() {
    return pick(Math.max(0, newestSnapshot - 5), newestSnapshot + 1);
  }

  private int key(int keys) {
    int edge = pick(0, 49);
    return edge == 0 ? 9999 : edge == 1 ? 0 : pick(0, keys) * (keys < 50 ? 7 : 31);
  }
}
