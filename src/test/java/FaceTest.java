import java.lang.reflect.Constructor;
import java.lang.reflect.Field;
import java.lang.reflect.Method;
import java.lang.reflect.Modifier;
import java.nio.file.Files;
import java.nio.file.Path;
import java.util.Arrays;
import java.util.TreeSet;
import java.util.regex.Pattern;

/** "The public face" of the document: all of it, in its order, and nothing beside it. */
public final class FaceTest {
  private static final Expect e = new Expect();

  private static final String[] FACE = {
    "public final class EqualCourt {",
    "public static final int NONE = -1;",
    "public EqualCourt()",
    "// ---- terms",
    "public int name(int n)",
    "public int number(int v)",
    "public int built(int head, int n, int a, int b, int c)",
    "public int row(int first, int rest)",
    "public int even(int head, int a, int b)",
    "public int kind(int t)",
    "public int part(int t, int i)",
    "public int shows(int t)",
    "public int many(int what)",
    "// ---- sayings",
    "public int say(int a, int b)",
    "public int unlike(int a, int b)",
    "public int drop(int s)",
    "public int said(int s, int what)",
    "public int clashed(int i)",
    "// ---- judgements",
    "public int judge(int a, int b)",
    "public int why(int a, int b)",
    "public int least(int a, int b, int trials)",
    "public int because(int i)",
    "public int head(int t)",
    "public int member(int t, int i)",
    "public int uses(int t, int i)",
    "public long world(int t)",
    "// ---- levels",
    "public int push()",
    "public int pop()",
    "// ---- laws",
    "public int law(int a, int b)",
    "public int instance(int t, int x, int y, int z)",
    "public int follow(int law, int n)",
    "public int ended()",
    "// ---- steps",
    "public int claim(int reason, int a, int b, int i, int j)",
    "public int unclaim()",
    "public int check(int a, int b)",
    "public int status()",
  };

  private static void inItsOrder() throws Exception {
    e.about("the face, as it is written");
    String source = Files.readString(Path.of("src/main/java/EqualCourt.java"));
    int at = 0;
    for (String line : FACE) {
      int found = source.indexOf(line, at);
      e.due(line + " stands behind what is ahead of it", found >= 0 ? 1 : 0, 1);
      at = Math.max(at, found);
    }
    long publics = Pattern.compile("\\bpublic\\b").matcher(source).results().count();
    long due = Arrays.stream(FACE).filter(line -> line.startsWith("public")).count();
    e.due("no more is public", publics, due);
  }

  private static String written(Method m) {
    String params = String.join(",", Arrays.stream(m.getParameterTypes()).map(Class::getName).toList());
    return Modifier.toString(m.getModifiers()) + " " + m.getReturnType() + " " + m.getName() + "(" + params + ")";
  }

  private static void methods() {
    e.about("the face, its methods");
    TreeSet<String> seen = new TreeSet<>();
    for (Method m : EqualCourt.class.getDeclaredMethods()) {
      if (!Modifier.isPrivate(m.getModifiers())) seen.add(written(m));
    }
    for (String line : FACE) {
      if (!line.matches("public (int|long) .*")) continue;
      String due = line.replaceAll("int \\w+([,)])", "int$1").replace(", ", ",");
      e.due(due + " is there", seen.remove(due) ? 1 : 0, 1);
    }
    e.due("no more than that is there: " + seen, seen.size(), 0);
  }

  private static void classItself() throws Exception {
    e.about("the face, the class");
    Class<EqualCourt> c = EqualCourt.class;
    e.due("public and final", c.getModifiers(), Modifier.PUBLIC | Modifier.FINAL);
    e.due("in no package", c.getPackageName().length(), 0);
    e.due("it extends nothing", c.getSuperclass() == Object.class ? 1 : 0, 1);
    e.due("it implements nothing", c.getInterfaces().length, 0);
    Constructor<?>[] made = c.getDeclaredConstructors();
    e.due("one constructor", made.length, 1);
    e.due("it is public", made[0].getModifiers(), Modifier.PUBLIC);
    e.due("it takes nothing", made[0].getParameterCount(), 0);
    for (Class<?> inside : c.getDeclaredClasses()) {
      e.due(inside + " is not public", inside.getModifiers() & (Modifier.PUBLIC | Modifier.PROTECTED), 0);
    }
  }

  private static void constants() throws Exception {
    e.about("the face, its constant");
    e.due("NONE", EqualCourt.NONE, -1);
    Field none = EqualCourt.class.getDeclaredField("NONE");
    e.due("NONE is an int", none.getType() == int.class ? 1 : 0, 1);
    e.due("NONE is a constant", none.getModifiers(), Modifier.PUBLIC | Modifier.STATIC | Modifier.FINAL);
    for (Field f : EqualCourt.class.getDeclaredFields()) {
      boolean hidden = Modifier.isPrivate(f.getModifiers());
      e.due(f + " is private", hidden || f.equals(none) ? 1 : 0, 1);
    }
  }

  public static void main(String[] args) throws Exception {
    inItsOrder();
    methods();
    classItself();
    constants();
    e.end();
  }
}
