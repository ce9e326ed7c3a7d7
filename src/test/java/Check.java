/** Compares answers with what is due, prints those that differ, and ends the test. */
final class Check {
  private int asked = 0;
  private int wrong = 0;

  /** A call, whose answer is not looked at. */
  interface Call {
    void run();
  }

  void due(String call, long got, long want) {
    asked++;
    if (got != want) {
      tell(call + " answered " + got + ", due is " + want);
    }
  }

  void due(String call, boolean got, boolean want) {
    due(call, got ? 1 : 0, want ? 1 : 0);
  }

  void dueReal(String call, double got, double want) {
    asked++;
    if (Double.compare(got, want) != 0) {
      tell(call + " answered " + got + ", due is " + want);
    }
  }

  void dueText(String call, String got, String want) {
    asked++;
    if (!got.equals(want)) {
      tell(call + " answered " + got + ", due is " + want);
    }
  }

  /** The call must throw just this kind and leave the store as it was. */
  void refused(SiltStore x, String call, Class<?> kind, Call todo) {
    long before = x.digest();
    thrown(call, kind, todo);
    due("digest() behind " + call, x.digest(), before);
  }

  /** The call must throw just this kind. */
  void thrown(String call, Class<?> kind, Call todo) {
    String thrown = "nothing";
    try {
      todo.run();
    } catch (RuntimeException e) {
      thrown = e.getClass().getSimpleName();
    }
    dueText(call + " throws", thrown, kind.getSimpleName());
  }

  void badArgument(SiltStore x, String call, Call todo) {
    refused(x, call, IllegalArgumentException.class, todo);
  }

  void badPlace(SiltStore x, String call, Call todo) {
    refused(x, call, IndexOutOfBoundsException.class, todo);
  }

  void badState(SiltStore x, String call, Call todo) {
    refused(x, call, IllegalStateException.class, todo);
  }

  /** The RUNS of a level: of each ENTRY key@age=value, or key@age- for a STONE. */
  void dueRuns(SiltStore x, int level, String want) {
    StringBuilder text = new StringBuilder();
    for (int run = 0; run < x.runs(level); run++) {
      text.append('[');
      for (int place = 0; place < x.size(level, run); place++) {
        text.append(place > 0 ? " " : "").append(x.entry(level, run, place, 0));
        text.append('@').append(x.entry(level, run, place, 1));
        int value = x.entry(level, run, place, 2);
        text.append(value < 0 ? "-" : "=" + value);
      }
      text.append(']');
    }
    dueText("runs of level " + level, text.toString(), want);
  }

  /** All of counted(): SKIPS, SEARCHES, ALARMS, WRITES, MERGINGS, LAID. */
  void dueCounted(SiltStore x, int... want) {
    for (int what = 0; what < want.length; what++) {
      due("counted(" + what + ")", x.counted(what), want[what]);
    }
  }

  private void tell(String text) {
    wrong++;
    if (wrong <= 20) {
      System.out.println("  " + text);
    }
  }

  int wrong() {
    return wrong;
  }

  void end() {
    System.out.println("  " + asked + " answers looked at, " + wrong + " wrong");
    if (wrong != 0 || asked == 0) {
      System.exit(1);
    }
  }
}
