/** The calls of the example in README.md, in their order, with the answers that it tells. */
public final class ReadmeTest {
  private static final Check CHECK = new Check();

  public static void main(String[] args) {
    SiltStore store = new SiltStore();
    CHECK.due("put(5, 50)", store.put(5, 50), 1);
    CHECK.due("put(7, 70)", store.put(7, 70), 2);
    CHECK.due("snap()", store.snap(), 0);
    CHECK.due("remove(5)", store.remove(5), 3);
    CHECK.due("get(5)", store.get(5), -1);
    CHECK.due("getAt(0, 5)", store.getAt(0, 5), 50);
    CHECK.due("keys()", store.keys(), 1);
    CHECK.due("next(-1)", store.next(-1), 7);
    CHECK.due("sum(0, 9999)", store.sum(0, 9999), 70);
    CHECK.due("hand()", store.hand(), 3);
    CHECK.due("flush()", store.flush(), 3);
    CHECK.due("entry(0, 0, 0, 1)", store.entry(0, 0, 0, 1), 3);
    CHECK.due("entry(0, 0, 0, 2)", store.entry(0, 0, 0, 2), -1);
    CHECK.due("release(0)", store.release(0), 0);
    CHECK.due("wouldSave(0)", store.wouldSave(0), 2);
    CHECK.due("pack(0)", store.pack(0), 2);
    CHECK.due("entries()", store.entries(), 1);
    CHECK.dueReal("amplification()", store.amplification(), 4.0 / 3);
    CHECK.due("setEvery(0)", store.setEvery(0), 1);
    CHECK.due("put(5, 55)", store.put(5, 55), 4);
    CHECK.due("unsafe()", store.unsafe(), 1);
    CHECK.due("getSafe(5)", store.getSafe(5), -1);
    CHECK.due("crash()", store.crash(), 1);
    CHECK.due("get(7)", store.get(7), 70);
    CHECK.badArgument(store, "put(10000, 1)", () -> store.put(10000, 1));
    CHECK.end();
  }
}
