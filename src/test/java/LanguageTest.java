import com.sun.source.tree.CompilationUnitTree;
import com.sun.source.tree.MethodInvocationTree;
import com.sun.source.tree.MethodTree;
import com.sun.source.util.JavacTask;
import com.sun.source.util.TreePath;
import com.sun.source.util.TreePathScanner;
import com.sun.source.util.Trees;
import java.lang.reflect.Field;
import java.lang.reflect.Method;
import java.lang.reflect.Modifier;
import java.nio.file.Files;
import java.nio.file.Path;
import java.util.ArrayList;
import java.util.List;
import java.util.Map;
import java.util.TreeMap;
import java.util.TreeSet;
import java.util.regex.Matcher;
import java.util.regex.Pattern;
import javax.lang.model.element.Element;
import javax.tools.JavaCompiler;
import javax.tools.StandardJavaFileManager;
import javax.tools.ToolProvider;

/** The rules of LANGUAGE.md that can be seen from the text of the program or from its classes. */
public final class LanguageTest {
  private static final Expect e = new Expect();

  private static void forbids(String text, String pattern) {
    Matcher m = Pattern.compile(pattern).matcher(text);
    e.due("'" + pattern + "' is not there", m.find() ? 1 : 0, 0);
  }

  private static String withoutComments(String text) {
    return text.replaceAll("(?s)/\\*.*?\\*/", "").replaceAll("//[^\n]*", "");
  }

  private static void words(String text) {
    String[] no = {"\\bthrow", "\\btry\\b", "\\bcatch\\b", "\\bsynchronized\\b", "\\bassert\\b", "->", "::",
      "\\bprotected\\b", "\\bpackage\\b", "\\bnative\\b", "Exact\\(", "\\bSystem\\.(?!arraycopy)", "\\bMath\\.random",
      "\\bThread\\b", "\\bvar\\b", "\\bdouble\\b", "\\bfloat\\b", "\"", "\\bstatic\\s*\\{", "\\bwhile\\s*\\(true\\)",
      "\\bfor\\s*\\(;;", "\\[\\s*\\]\\s*\\[\\s*\\]", "\\bequals\\(", "\\bhashCode\\b", "\\btoString\\b"};
    for (String n : no) forbids(text, n);
    Matcher imports = Pattern.compile("(?m)^import (.*);").matcher(text);
    while (imports.find()) e.due(imports.group(1) + " may be imported", imports.group(1).equals("java.util.Arrays") ? 1 : 0, 1);
    for (int i = 0; i < text.length(); i++) {
      if (text.charAt(i) > 127) e.due("a sign beyond 127", i, -1);
    }
  }

  private static void methodsAreShort(String source) {
    String name = "";
    int length = 0;
    for (String line : source.split("\n")) {
      length++;
      if (line.matches("^ {4}( {4})?\\S.*\\) \\{$")) {
        name = line.strip();
        length = 1;
      }
      if (line.matches("^ {4}( {4})?\\}$")) e.due(name + " has at most 60 lines", Math.max(60, length), 60);
    }
  }

  private static void classesAreSmall() {
    TreeSet<String> face = new TreeSet<>();
    for (Method m : EqualCourt.class.getDeclaredMethods()) {
      if (Modifier.isPublic(m.getModifiers())) face.add(m.getName());
    }
    Class<?>[] inside = EqualCourt.class.getDeclaredClasses();
    e.due("at most 12 classes", Math.max(12, inside.length + 1), 12);
    lookAt(EqualCourt.class, face);
    for (Class<?> c : inside) {
      e.due(c + " is static", Modifier.isStatic(c.getModifiers()) ? 1 : 0, 1);
      e.due(c + " has none inside", c.getDeclaredClasses().length, 0);
      lookAt(c, face);
    }
  }

  private static void lookAt(Class<?> c, TreeSet<String> face) {
    int fields = 0;
    for (Field f : c.getDeclaredFields()) {
      boolean isStatic = Modifier.isStatic(f.getModifiers());
      if (!isStatic) fields++;
      e.due(f + " is final if static", isStatic && !Modifier.isFinal(f.getModifiers()) ? 1 : 0, 0);
    }
    e.due(c + " has at most 20 fields", Math.max(20, fields), 20);
    for (Method m : c.getDeclaredMethods()) {
      e.due(m + " takes at most seven", Math.max(7, m.getParameterCount()), 7);
      boolean isPublic = Modifier.isPublic(m.getModifiers());
      e.due(m + " has a name of its own", !isPublic && face.contains(m.getName()) ? 1 : 0, 0);
    }
  }

  /** Which methods each method of the program calls, the library's too, as the compiler reads it. */
  private static Map<String, TreeSet<String>> calls() throws Exception {
    Map<String, TreeSet<String>> calls = new TreeMap<>();
    JavaCompiler javac = ToolProvider.getSystemJavaCompiler();
    StandardJavaFileManager files = javac.getStandardFileManager(null, null, null);
    JavacTask task = (JavacTask) javac.getTask(
        null, files, null, List.of("-proc:none"), null, files.getJavaFileObjects("src/main/java/EqualCourt.java"));
    List<CompilationUnitTree> units = new ArrayList<>();
    task.parse().forEach(units::add);
    task.analyze();
    Trees trees = Trees.instance(task);
    new TreePathScanner<Void, String>() {
      @Override
      public Void visitMethod(MethodTree node, String within) {
        return super.visitMethod(node, nameOf(trees.getElement(getCurrentPath())));
      }

      @Override
      public Void visitMethodInvocation(MethodInvocationTree node, String within) {
        Element called = trees.getElement(new TreePath(getCurrentPath(), node.getMethodSelect()));
        calls.computeIfAbsent(within, k -> new TreeSet<>()).add(nameOf(called));
        return super.visitMethodInvocation(node, within);
      }
    }.scan(units, "");
    files.close();
    return calls;
  }

  private static String nameOf(Element method) {
    return method.getEnclosingElement() + "." + method.getSimpleName();
  }

  /** How many calls are open at once at most, this one among them; 99 if there is no end to it. */
  private static int depth(String method, Map<String, TreeSet<String>> calls, int above) {
    if (above > 20) return 99;
    int most = 0;
    for (String next : calls.getOrDefault(method, new TreeSet<>())) most = Math.max(most, depth(next, calls, above + 1));
    return most + 1;
  }

  private static void callsAreShallow() throws Exception {
    Map<String, TreeSet<String>> calls = calls();
    int most = 0;
    for (Method m : EqualCourt.class.getDeclaredMethods()) {
      int deep = depth("EqualCourt." + m.getName(), calls, 0);
      e.due(m.getName() + "() goes at most eight deep", Math.max(8, deep), 8);
      most = Math.max(most, deep);
    }
    e.due("calls were found", most > 5 ? 1 : 0, 1);
  }

  public static void main(String[] args) throws Exception {
    String source = Files.readString(Path.of("src/main/java/EqualCourt.java"));
    e.about("LANGUAGE.md");
    words(withoutComments(source));
    methodsAreShort(source);
    classesAreSmall();
    callsAreShallow();
    e.end();
  }
}
