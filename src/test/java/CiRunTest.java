import java.io.IOException;
import java.nio.file.Files;
import java.nio.file.Path;
import java.util.ArrayList;
import java.util.Comparator;
import java.util.List;
import java.util.concurrent.ExecutorService;
import java.util.concurrent.Executors;
import java.util.concurrent.Future;
import java.util.stream.Stream;

/** .ci/run runs every test of a project and every shared one, and refuses if one fails or does not compile. */
public final class CiRunTest {
  private static final String MAIN = "main/src/main/java/EqualCourt.java";
  private static final String HELPER = "main/src/test/java/Helper.java";
  private static final String[] TESTS = {
    "main/src/test/java/FirstTest.java", "main/src/test/java/LastTest.java", "shared/tests/Ahead.java",
    "shared/tests/Behind.java",
  };
  private static final String BROKEN = "public final class {";

  private record Case(String text, String changed, String content, boolean passes) {}

  private record Outcome(int code, String output) {}

  private static String nameOf(String path) {
    return path.substring(path.lastIndexOf('/') + 1).replace(".java", "");
  }

  private static String test(String path, String end) {
    return "public final class " + nameOf(path) + " { public static void main(String[] args) {\n"
        + "System.out.println(\"ran " + nameOf(path) + "\"); new EqualCourt(); " + end + " } }\n";
  }

  private static void write(Path root, String path, String content) throws IOException {
    Path file = root.resolve(path);
    Files.createDirectories(file.getParent());
    if (content == null) Files.deleteIfExists(file);
    else Files.writeString(file, content);
  }

  /** A project of four tests that pass, with a class beside them that is no test. */
  private static void begin(Path root) throws IOException {
    write(root, MAIN, "public final class EqualCourt { }\n");
    write(root, HELPER, "final class Helper { }\n");
    for (String path : TESTS) write(root, path, test(path, ""));
    Path run = root.resolve("main/.ci/run");
    Files.createDirectories(run.getParent());
    Files.copy(Path.of(".ci/run"), run);
    run.toFile().setExecutable(true);
  }

  private static Outcome run(Case c) throws Exception {
    Path root = Files.createTempDirectory("ci");
    try {
      begin(root);
      for (String path : c.changed.split(" ")) if (!path.isEmpty()) write(root, path, c.content);
      // From another directory than the project's, so that it has to find its own way.
      Process p = new ProcessBuilder(root.resolve("main/.ci/run").toString()).directory(root.toFile())
          .redirectErrorStream(true).start();
      p.getOutputStream().close();
      String output = new String(p.getInputStream().readAllBytes());
      return new Outcome(p.waitFor(), output);
    } finally {
      List<Path> all;
      try (Stream<Path> walk = Files.walk(root)) {
        all = walk.sorted(Comparator.reverseOrder()).toList();
      }
      for (Path path : all) Files.delete(path);
    }
  }

  private static List<Case> cases() {
    List<Case> all = new ArrayList<>();
    all.add(new Case("all pass", "", null, true));
    for (String path : TESTS) {
      all.add(new Case(nameOf(path) + " fails", path, test(path, "System.exit(1);"), false));
    }
    all.add(new Case("a test throws", TESTS[0], test(TESTS[0], "throw new IllegalStateException();"), false));
    all.add(new Case("a shared test does not compile", TESTS[2], BROKEN, false));
    all.add(new Case("a test of the project does not compile", TESTS[1], BROKEN, false));
    all.add(new Case("the program does not compile", MAIN, BROKEN, false));
    all.add(new Case("there is no shared test", TESTS[2] + " " + TESTS[3], null, false));
    return all;
  }

  public static void main(String[] args) throws Exception {
    Expect e = new Expect();
    e.about(".ci/run");
    List<Case> cases = cases();
    ExecutorService pool = Executors.newFixedThreadPool(4);
    List<Future<Outcome>> outcomes = new ArrayList<>();
    for (Case c : cases) outcomes.add(pool.submit(() -> run(c)));
    for (int i = 0; i < cases.size(); i++) {
      Case c = cases.get(i);
      Outcome o = outcomes.get(i).get();
      e.due(c.text + ": it ends with 0", o.code == 0 ? 1 : 0, c.passes ? 1 : 0);
      // One that fails keeps no other from being run; what does not compile may.
      boolean allRun = c.content == null ? c.changed.isEmpty() : !c.content.equals(BROKEN);
      for (String path : TESTS) {
        String ran = "ran " + nameOf(path);
        if (allRun) e.due(c.text + ": " + ran, o.output.contains(ran) ? 1 : 0, 1);
      }
    }
    pool.shutdown();
    e.end();
  }
}
