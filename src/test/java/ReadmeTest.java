import java.io.IOException;
import java.lang.reflect.Method;
import java.lang.reflect.Modifier;
import java.net.URL;
import java.net.URLClassLoader;
import java.nio.file.Files;
import java.nio.file.Path;
import java.util.ArrayList;
import java.util.Comparator;
import java.util.List;
import java.util.TreeSet;
import java.util.regex.Matcher;
import java.util.regex.Pattern;
import java.util.stream.Stream;
import javax.tools.ToolProvider;

/** Each example that README.md gives answers what README.md says, and the commands that it gives run the tests. */
public final class ReadmeTest {
  private static final Expect e = new Expect();
  private static final String BEGIN = "EqualCourt court = new EqualCourt();";
  private static final String ALL_TESTS = ".ci/run";
  private static final Pattern LOOP = Pattern.compile("for \\(.*\\) court\\.\\w+\\(.*\\);");
  private static final Pattern CALL =
      Pattern.compile("(?:int (\\w+) = )?(court\\.(\\w+)\\([^;]*\\)); +// (-?\\d+)\\b.*");

  private static List<List<String>> blocks(String readme, String language) {
    List<List<String>> found = new ArrayList<>();
    Matcher m = Pattern.compile("(?ms)^```" + language + "\n(.*?)^```$").matcher(readme);
    while (m.find()) found.add(m.group(1).lines().toList());
    return found;
  }

  /** A class whose method makes the calls of an example, line by line, and hands out what they answered. */
  private static String program(String name, List<String> lines, List<String> calls, List<Long> told) {
    StringBuilder body = new StringBuilder();
    for (String line : lines) {
      Matcher call = CALL.matcher(line);
      if (call.matches()) {
        String into = "got.add((long) ";
        if (call.group(1) == null) body.append(into).append(call.group(2)).append(");\n");
        else body.append("int ").append(call.group(1)).append(" = ").append(call.group(2)).append(";\n")
            .append(into).append(call.group(1)).append(");\n");
        calls.add(call.group(2));
        told.add(Long.parseLong(call.group(4)));
      } else {
        boolean plain = line.equals(BEGIN) || LOOP.matcher(line).matches();
        e.due("a line of an example tells what it answers: " + line, plain ? 1 : 0, 1);
        body.append(line).append("\n");
      }
    }
    return "public final class " + name + " {\n  public static java.util.List<Long> answers() {\n"
        + "java.util.List<Long> got = new java.util.ArrayList<>();\n" + body + "return got;\n}\n}\n";
  }

  private static void example(int number, List<String> lines, Path dir) throws Exception {
    e.about("README.md, example " + number);
    e.due("it begins with a new object", lines.get(0).equals(BEGIN) ? 1 : 0, 1);
    String name = "Example" + number;
    List<String> calls = new ArrayList<>();
    List<Long> told = new ArrayList<>();
    Path file = dir.resolve(name + ".java");
    Files.writeString(file, program(name, lines, calls, told));
    String classes = System.getProperty("java.class.path");
    int failed = ToolProvider.getSystemJavaCompiler()
        .run(null, null, null, "-cp", classes, "-d", dir.toString(), file.toString());
    e.due("it compiles", failed, 0);
    if (failed != 0) return;
    try (URLClassLoader loader = new URLClassLoader(new URL[] {dir.toUri().toURL()})) {
      List<?> got = (List<?>) loader.loadClass(name).getMethod("answers").invoke(null);
      for (int i = 0; i < told.size(); i++) {
        e.due("call " + (i + 1) + ", " + calls.get(i), (Long) got.get(i), told.get(i));
      }
    }
  }

  /** What is not in any example is not told how to be used. */
  private static void examplesCallAll(List<List<String>> examples) {
    e.about("README.md, its examples");
    TreeSet<String> called = new TreeSet<>();
    for (List<String> lines : examples) {
      for (String line : lines) {
        Matcher call = CALL.matcher(line);
        if (call.matches()) called.add(call.group(3));
      }
    }
    for (Method m : EqualCourt.class.getDeclaredMethods()) {
      if (!Modifier.isPublic(m.getModifiers())) continue;
      e.due(m.getName() + "() is called", called.contains(m.getName()) ? 1 : 0, 1);
    }
  }

  private static void copy(Path from, Path to) throws IOException {
    List<Path> all;
    try (Stream<Path> walk = Files.walk(from)) {
      all = walk.toList();
    }
    for (Path p : all) {
      Path target = to.resolve(from.relativize(p).toString());
      if (Files.isDirectory(p)) Files.createDirectories(target);
      else Files.copy(p, target);
    }
  }

  private static void remove(Path dir) throws IOException {
    List<Path> all;
    try (Stream<Path> walk = Files.walk(dir)) {
      all = walk.sorted(Comparator.reverseOrder()).toList();
    }
    for (Path p : all) Files.delete(p);
  }

  /** Commands are run in a copy of the project, so that they leave nothing behind in it. */
  private static void command(String line, Path project) throws Exception {
    e.due("it runs no test of README.md, which would never end: " + line, line.contains("ReadmeTest") ? 1 : 0, 0);
    if (line.contains("ReadmeTest")) return;
    Process p = new ProcessBuilder("sh", "-c", line).directory(project.toFile()).redirectErrorStream(true).start();
    p.getOutputStream().close();
    String output = new String(p.getInputStream().readAllBytes());
    e.due("exit code of: " + line, p.waitFor(), 0);
    boolean compiles = line.startsWith("javac ");
    boolean ran = Pattern.compile("(?m)^[1-9]\\d* answers, 0 not as due$").matcher(output).find();
    e.due("it compiles, or runs a test: " + line, compiles || ran ? 1 : 0, 1);
  }

  private static void commands(List<List<String>> scripts, Path dir) throws Exception {
    e.about("README.md, its commands");
    Path project = dir.resolve("project");
    copy(Path.of("src"), Files.createDirectories(project).resolve("src"));
    boolean all = false;
    for (List<String> lines : scripts) {
      for (String line : lines) {
        // It is what runs this test; CiRunTest shows what it does.
        if (line.equals(ALL_TESTS)) all = true;
        else command(line, project);
      }
    }
    e.due(ALL_TESTS + " is given", all ? 1 : 0, 1);
    e.due(ALL_TESTS + " can be run", Files.isExecutable(Path.of(ALL_TESTS)) ? 1 : 0, 1);
  }

  private static void testsAreNamed(String readme) throws IOException {
    e.about("README.md, its list of tests");
    TreeSet<String> named = new TreeSet<>();
    Matcher m = Pattern.compile("`(\\w+Test)`").matcher(readme);
    while (m.find()) named.add(m.group(1));
    TreeSet<String> there = new TreeSet<>();
    try (Stream<Path> files = Files.list(Path.of("src/test/java"))) {
      for (Path p : files.toList()) {
        String name = p.getFileName().toString().replace(".java", "");
        if (name.endsWith("Test")) there.add(name);
      }
    }
    for (String name : there) e.due(name + " is named", named.contains(name) ? 1 : 0, 1);
    for (String name : named) e.due(name + " is there", there.contains(name) ? 1 : 0, 1);
  }

  public static void main(String[] args) throws Exception {
    String readme = Files.readString(Path.of("README.md"));
    Path dir = Files.createTempDirectory("readme");
    try {
      List<List<String>> examples = blocks(readme, "java");
      for (int i = 0; i < examples.size(); i++) example(i + 1, examples.get(i), dir);
      examplesCallAll(examples);
      testsAreNamed(readme);
      commands(blocks(readme, "sh"), dir);
    } finally {
      remove(dir);
    }
    e.end();
  }
}
