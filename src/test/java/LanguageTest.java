import java.io.PrintWriter;
import java.io.StringWriter;
import java.lang.reflect.Field;
import java.lang.reflect.Method;
import java.lang.reflect.Modifier;
import java.nio.file.Files;
import java.nio.file.Path;
import java.util.Map;
import java.util.TreeMap;
import java.util.TreeSet;
import java.util.regex.Matcher;
import java.util.regex.Pattern;
import java.util.spi.ToolProvider;

/** The rules of LANGUAGE.md that can be seen from the text of the program or from its classes. */
public final class LanguageTest {
  private static final Expect e = new Expect();

  private static void forbids(String text, String pattern) {
    Matcher m = Pattern.compile(pattern).matcher(text);
    e.due("'" + pattern + "' is not there", m.find() ? 1 : 0, 0);
  }

  private static String withoutComments(String text) {
    return text.replaceAll("(?s)/\\*.*?\\*/", "").replaceAll("//[^\n]*", "");
  }

  private static void words(String text) {
    String[] no = {"\\bthrow", "\\btry\\b", "\\bcatch\\b", "\\bsynchronized\\b", "\\bassert\\b", "->", "::",
      "\\bprotected\\b", "\\bpackage\\b", "\\bnative\\b", "Exact\\(", "\\bSystem\\.(?!arraycopy)", "\\bMath\\.random",
      "\\bThread\\b", "\\bvar\\b", "\\bdouble\\b", "\\bfloat\\b", "\"", "\\bstatic\\s*\\{", "\\bwhile\\s*\\(true\\)",
      "\\bfor\\s*\\(;;", "\\[\\s*\\]\\s*\\[\\s*\\]", "\\bequals\\(", "\\bhashCode\\b", "\\btoString\\b"};
    for (String n : no) forbids(text, n);
    Matcher imports = Pattern.compile("(?m)^import (.*);").matcher(text);
    while (imports.find()) e.due(imports.group(1) + " may be imported", imports.group(1).equals("java.util.Arrays") ? 1 : 0, 1);
    for (int i = 0; i < text.length(); i++) {
      if (text.charAt(i) > 127) e.due("a sign beyond 127", i, -1);
    }
  }

  private static void methodsAreShort(String source) {
    String name = "";
    int length = 0;
    for (String line : source.split("\n")) {
      length++;
      if (line.matches("^ {4}( {4})?\\S.*\\) \\{$")) {
        name = line.strip();
        length = 1;
      }
      if (line.matches("^ {4}( {4})?\\}$")) e.due(name + " has at most 60 lines", Math.max(60, length), 60);
    }
  }

  private static void classesAreSmall() {
    TreeSet<String> face = new TreeSet<>();
    for (Method m : EqualCourt.class.getDeclaredMethods()) {
      if (Modifier.isPublic(m.getModifiers())) face.add(m.getName());
    }
    Class<?>[] inside = EqualCourt.class.getDeclaredClasses();
    e.due("at most 12 classes", Math.max(12, inside.length + 1), 12);
    lookAt(EqualCourt.class, face);
    for (Class<?> c : inside) {
      e.due(c + " is static", Modifier.isStatic(c.getModifiers()) ? 1 : 0, 1);
      e.due(c + " has none inside", c.getDeclaredClasses().length, 0);
      lookAt(c, face);
    }
  }

  private static void lookAt(Class<?> c, TreeSet<String> face) {
    int fields = 0;
    for (Field f : c.getDeclaredFields()) {
      boolean isStatic = Modifier.isStatic(f.getModifiers());
      if (!isStatic) fields++;
      e.due(f + " is final if static", isStatic && !Modifier.isFinal(f.getModifiers()) ? 1 : 0, 0);
    }
    e.due(c + " has at most 20 fields", Math.max(20, fields), 20);
    for (Method m : c.getDeclaredMethods()) {
      e.due(m + " takes at most seven", Math.max(7, m.getParameterCount()), 7);
      boolean isPublic = Modifier.isPublic(m.getModifiers());
      e.due(m + " has a name of its own", !isPublic && face.contains(m.getName()) ? 1 : 0, 0);
    }
  }

  /** Which methods of the program each of its methods calls, as javap tells. */
  private static Map<String, TreeSet<String>> calls() {
    StringWriter text = new StringWriter();
    String[] args = new String[EqualCourt.class.getDeclaredClasses().length + 5];
    args[0] = "-p";
    args[1] = "-c";
    args[2] = "-cp";
    args[3] = System.getProperty("java.class.path");
    args[4] = "EqualCourt";
    for (int i = 5; i < args.length; i++) args[i] = EqualCourt.class.getDeclaredClasses()[i - 5].getName();
    e.due("javap ends well", ToolProvider.findFirst("javap").orElseThrow()
        .run(new PrintWriter(text), new PrintWriter(text), args), 0);
    Map<String, TreeSet<String>> calls = new TreeMap<>();
    String inClass = "";
    String inMethod = "";
    for (String line : text.toString().split("\n")) {
      Matcher c = Pattern.compile("\\bclass (EqualCourt\\S*) ").matcher(line);
      Matcher m = Pattern.compile("^  (?:\\S.* )?([\\w$]+)\\(.*\\);$").matcher(line);
      Matcher call = Pattern.compile("invoke\\w+ .*// Method (?:(\\S+)\\.)?(\\w+):").matcher(line);
      if (c.find()) inClass = c.group(1);
      if (m.find()) inMethod = inClass + "." + m.group(1);
      if (!call.find()) continue;
      String of = call.group(1) == null ? inClass : call.group(1);
      calls.computeIfAbsent(inMethod, k -> new TreeSet<>()).add(of + "." + call.group(2));
    }
    return calls;
  }

  /** How many calls are open at once at most, this one among them; 99 if there is no end to it. */
  private static int depth(String method, Map<String, TreeSet<String>> calls, int above) {
    if (above > 20) return 99;
    int most = 0;
    for (String next : calls.getOrDefault(method, new TreeSet<>())) most = Math.max(most, depth(next, calls, above + 1));
    return most + 1;
  }

  private static void callsAreShallow() {
    Map<String, TreeSet<String>> calls = calls();
    int most = 0;
    for (Method m : EqualCourt.class.getDeclaredMethods()) {
      int deep = depth("EqualCourt." + m.getName(), calls, 0);
      e.due(m.getName() + "() goes at most eight deep", Math.max(8, deep), 8);
      most = Math.max(most, deep);
    }
    e.due("calls were found", most > 5 ? 1 : 0, 1);
  }

  public static void main(String[] args) throws Exception {
    String source = Files.readString(Path.of("src/main/java/EqualCourt.java"));
    e.about("LANGUAGE.md");
    words(withoutComments(source));
    methodsAreShort(source);
    classesAreSmall();
    callsAreShallow();
    e.end();
  }
}
