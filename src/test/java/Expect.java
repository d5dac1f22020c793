/** Counts and prints answers that are not as due. */
final class Expect {
  private int wrong = 0;
  private int asked = 0;
  private String about = "";

  void about(String what) {
    about = what;
  }

  void due(String call, long got, long want) {
    asked++;
    if (got != want) {
      wrong++;
      if (wrong <= 40) {
        System.out.println(about + ": " + call + " answered " + got + ", due is " + want);
      }
    }
  }

  void refused(EqualCourt x, String call, long got, int finding) {
    due(call, got, EqualCourt.NONE);
    due(call + ", then status()", x.status(), finding);
  }

  void fine(EqualCourt x, String call, long got, long want) {
    due(call, got, want);
    due(call + ", then status()", x.status(), 0);
  }

  boolean isClean() {
    return wrong == 0;
  }

  void end() {
    System.out.println(asked + " answers, " + wrong + " not as due");
    if (wrong != 0) {
      System.exit(1);
    }
  }
}
