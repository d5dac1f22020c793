import java.lang.reflect.InvocationTargetException;
import java.lang.reflect.Method;
import java.lang.reflect.Modifier;
import java.util.ArrayList;
import java.util.Comparator;
import java.util.List;
import java.util.Random;

/** "No call may ever throw or fail to end, for any arguments in any state": behind the 512th call too. */
public final class AnyCallTest {
  private static final int CALLS = 6000;
  private static final int[] EDGES = {
    Integer.MIN_VALUE, Integer.MIN_VALUE + 1, -1000, -2, -1, 0, 1, 2, 3, 4, 19, 20, 50, 51, 89, 90, 91, 92, 93, 99, 100,
    119, 120, 121, 500, 501, 1 << 16, Integer.MAX_VALUE - 1, Integer.MAX_VALUE,
  };

  /** By name, since the order in which reflection tells them is free, and each run shall be the same. */
  private static List<Method> face() {
    List<Method> all = new ArrayList<>();
    for (Method m : EqualCourt.class.getDeclaredMethods()) if (Modifier.isPublic(m.getModifiers())) all.add(m);
    all.sort(Comparator.comparing(Method::getName));
    return all;
  }

  private static int anInt(Random random, int wild) {
    if (random.nextInt(100) >= wild) return random.nextInt(random.nextBoolean() ? 4 : 120);
    return random.nextInt(4) == 0 ? random.nextInt() : EDGES[random.nextInt(EDGES.length)];
  }

  private static void runOf(Expect e, List<Method> face, int seed) throws Exception {
    Random random = new Random(seed);
    EqualCourt x = new EqualCourt();
    // From none to all of the arguments are wild, so that some objects become full, and some stay empty.
    int wild = seed % 5 * 25;
    for (int i = 0; i < CALLS; i++) {
      Method m = face.get(random.nextInt(face.size()));
      Object[] args = new Object[m.getParameterCount()];
      for (int k = 0; k < args.length; k++) args[k] = anInt(random, wild);
      try {
        m.invoke(x, args);
        e.due(m.getName() + "() ends", 1, 1);
      } catch (InvocationTargetException thrown) {
        e.due(m.getName() + "() in run " + seed + " threw " + thrown.getCause(), 0, 1);
      }
    }
  }

  public static void main(String[] args) throws Exception {
    Expect e = new Expect();
    e.about("any call");
    List<Method> face = face();
    for (int seed = 0; seed < 40; seed++) runOf(e, face, seed);
    e.end();
  }
}
