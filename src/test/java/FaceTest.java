import java.lang.reflect.Constructor;
import java.lang.reflect.Executable;
import java.lang.reflect.Field;
import java.lang.reflect.Method;
import java.lang.reflect.Modifier;
import java.util.TreeSet;

/** The public face of the document, and that there is no more of it (rules 1 and 5 of LANGUAGE.md). */
public final class FaceTest {
  private static final Check CHECK = new Check();
  private static final String A = "IllegalArgumentException";
  private static final String P = "IndexOutOfBoundsException";
  private static final String S = "IllegalStateException";

  /** What is returned, the name, how many numbers it takes, what it throws. */
  private static final String[] FACE = {
    "int setRoom 1 " + A, "int setWay 3 " + A + "," + S, "int setFilter 2 " + A, "int setEvery 1 " + A,
    "int put 2 " + A, "int remove 1 " + A, "int sync 0 ", "int flush 0 ", "int pack 1 " + P, "int crash 0 ",
    "int snap 0 " + S, "int release 1 " + P, "int get 1 " + A, "int getAt 2 " + P + "," + A, "int next 1 " + A,
    "int countAt 3 " + P + "," + A, "int sum 2 " + A, "int keys 0 ", "int hand 0 ", "int log 0 ", "int unsafe 0 ",
    "int snapshots 0 ", "int runs 1 " + P, "int size 2 " + P, "int entry 4 " + P + "," + A, "int bitsSet 2 " + P,
    "boolean mayHave 3 " + P + "," + A, "int mark 1 " + P, "int entries 0 ", "int stones 0 ", "int counted 1 " + A,
    "double amplification 0 ", "int cost 1 " + A, "int wouldSave 1 " + P, "int getSafe 1 " + A, "long digest 0 "
  };

  public static void main(String[] args) {
    TreeSet<String> due = new TreeSet<>();
    for (String line : FACE) {
      due.add(line);
    }
    TreeSet<String> got = new TreeSet<>();
    TreeSet<String> names = new TreeSet<>();
    for (Method m : SiltStore.class.getDeclaredMethods()) {
      if (!Modifier.isPrivate(m.getModifiers()) && !m.isSynthetic()) {
        got.add(m.getReturnType() + " " + m.getName() + " " + numbers(m) + " " + thrown(m));
        names.add(m.getName());
        CHECK.due(m.getName() + " is public and of the object",
            m.getModifiers() & (Modifier.PUBLIC | Modifier.STATIC), Modifier.PUBLIC);
      }
    }
    CHECK.dueText("the face", got.toString(), due.toString());
    CHECK.due("the class", SiltStore.class.getModifiers(), Modifier.PUBLIC | Modifier.FINAL);
    constructors();
    members(SiltStore.class, names);
    for (Class<?> inside : SiltStore.class.getDeclaredClasses()) {
      CHECK.due(inside + " is static", Modifier.isStatic(inside.getModifiers()), true);
      CHECK.due(inside + " is not public", Modifier.isPublic(inside.getModifiers()), false);
      members(inside, names);
    }
    CHECK.end();
  }

  private static int numbers(Executable m) {
    for (Class<?> type : m.getParameterTypes()) {
      CHECK.due(m.getName() + " takes numbers", type == int.class, true);
    }
    return m.getParameterCount();
  }

  private static String thrown(Executable m) {
    StringBuilder text = new StringBuilder();
    for (Class<?> type : m.getExceptionTypes()) {
      text.append(text.length() > 0 ? "," : "").append(type.getSimpleName());
    }
    return text.toString();
  }

  private static void constructors() {
    Constructor<?>[] all = SiltStore.class.getDeclaredConstructors();
    CHECK.due("constructors", all.length, 1);
    CHECK.due("numbers it takes", all[0].getParameterCount(), 0);
    CHECK.due("it is public", Modifier.isPublic(all[0].getModifiers()), true);
  }

  private static void members(Class<?> c, TreeSet<String> names) {
    int fields = 0;
    for (Field f : c.getDeclaredFields()) {
      if (Modifier.isStatic(f.getModifiers())) {
        CHECK.due(f + " is final", Modifier.isFinal(f.getModifiers()), true);
      } else {
        fields++;
      }
      CHECK.due(f + " is private", c != SiltStore.class || Modifier.isPrivate(f.getModifiers()), true);
    }
    CHECK.due("fields of " + c + " are few", fields <= 20, true);
    for (Method m : c.getDeclaredMethods()) {
      boolean ofFace = c == SiltStore.class && Modifier.isPublic(m.getModifiers());
      CHECK.due(m + " has a name of its own", ofFace || !names.contains(m.getName()), true);
      CHECK.due(m + " takes few numbers", m.getParameterCount() <= 7, true);
    }
  }
}
