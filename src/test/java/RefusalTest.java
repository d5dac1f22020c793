/**
 * "An ACT that is refused .. changes nothing but status(), which is the FINDING, and what clashed() tells, if that is
 * CLASH"; "Refusals are told in the order in which they are looked for"; "ASKS change nothing": for each ACT and each
 * ASK, on an object that is empty, on one that holds a little of all, and on one that is full.
 */
public final class RefusalTest {
  private static final int BEYOND = 1, KIND = 2, FULL = 3, CLASH = 4, GONE = 5, OPEN = 6, SPENT = 7, NEGATIVE = 8,
      MISSING = 9;
  private static final int MIN = Integer.MIN_VALUE, MAX = Integer.MAX_VALUE;
  private static final Expect e = new Expect();
  private static final Twins twins = new Twins(e);

  private static Twins.Scene scene;

  private static void no(int finding, String text, Twins.Call act) {
    twins.refusedChangesNothing(text, scene, act, finding);
  }

  private static void ask(String text, Twins.Call call) {
    twins.askChangesNothing(text, scene, call);
  }

  /** Those that are refused whatever the object holds. */
  private static void refusedAnywhere() {
    no(BEYOND, "name(-1)", x -> x.name(-1));
    no(BEYOND, "name(100)", x -> x.name(100));
    no(BEYOND, "built: HEAD ahead of NEGATIVE", x -> x.built(20, -1, 0, 0, 0));
    no(NEGATIVE, "built: NEGATIVE ahead of PARTS", x -> x.built(0, -1, MAX, MAX, MAX));
    no(BEYOND, "built(0, 0, 0, 0, 0)", x -> x.built(0, 0, 0, 0, 0));
    no(BEYOND, "built(0, 4, 0, 0, 0)", x -> x.built(0, 4, 0, 0, 0));
    no(BEYOND, "built(0, 3, 0, 0, 120)", x -> x.built(0, 3, 0, 0, 120));
    no(BEYOND, "row(120, 0)", x -> x.row(120, 0));
    no(BEYOND, "row(0, 120)", x -> x.row(0, 120));
    no(BEYOND, "even(20, 0, 0)", x -> x.even(20, 0, 0));
    no(BEYOND, "even(0, 0, 120)", x -> x.even(0, 0, 120));
    no(BEYOND, "part(120, -1)", x -> x.part(120, -1));
    no(BEYOND, "shows(-1)", x -> x.shows(-1));
    no(BEYOND, "say(0, 120)", x -> x.say(0, 120));
    no(BEYOND, "unlike(120, 0)", x -> x.unlike(120, 0));
    no(BEYOND, "drop(100)", x -> x.drop(100));
    no(BEYOND, "drop(-1)", x -> x.drop(-1));
    no(BEYOND, "why(0, 120)", x -> x.why(0, 120));
    no(BEYOND, "least(120, 0, 1)", x -> x.least(120, 0, 1));
    no(BEYOND, "least(0, 0, 0)", x -> x.least(0, 0, 0));
    no(BEYOND, "least(0, 2, 501), ahead of OPEN", x -> x.least(0, 2, 501));
    no(BEYOND, "law(0, 120)", x -> x.law(0, 120));
    no(BEYOND, "instance(120, 0, 0, 0)", x -> x.instance(120, 0, 0, 0));
    no(BEYOND, "instance(0, 0, 0, 120)", x -> x.instance(0, 0, 0, 120));
    no(BEYOND, "follow(10, 1)", x -> x.follow(10, 1));
    no(BEYOND, "follow(0, 0)", x -> x.follow(0, 0));
    no(BEYOND, "follow(0, 51)", x -> x.follow(0, 51));
    no(BEYOND, "claim(1, 0, 120, 0, 0)", x -> x.claim(1, 0, 120, 0, 0));
  }

  private static void refusedWhenEmpty() {
    no(BEYOND, "built(0, 1, 0, 0, 0)", x -> x.built(0, 1, 0, 0, 0));
    no(BEYOND, "row(0, 0)", x -> x.row(0, 0));
    no(BEYOND, "even(0, 0, 0)", x -> x.even(0, 0, 0));
    no(BEYOND, "part(0, 0)", x -> x.part(0, 0));
    no(BEYOND, "shows(0)", x -> x.shows(0));
    no(BEYOND, "say(0, 0)", x -> x.say(0, 0));
    no(BEYOND, "unlike(0, 0), ahead of CLASH", x -> x.unlike(0, 0));
    no(BEYOND, "drop(0)", x -> x.drop(0));
    no(BEYOND, "why(0, 0)", x -> x.why(0, 0));
    no(BEYOND, "least(0, 0, 1)", x -> x.least(0, 0, 1));
    no(MISSING, "pop()", x -> x.pop());
    no(BEYOND, "law(0, 0)", x -> x.law(0, 0));
    no(BEYOND, "instance(0, 0, 0, 0)", x -> x.instance(0, 0, 0, 0));
    no(BEYOND, "follow(0, 1), ahead of OPEN", x -> x.follow(0, 1));
    no(BEYOND, "claim(1, 0, 0, 0, 0)", x -> x.claim(1, 0, 0, 0, 0));
  }

  private static void refusedWhenBusy() {
    no(KIND, "part(0, 0)", x -> x.part(0, 0));
    no(KIND, "part(3, -1), ahead of BEYOND", x -> x.part(3, -1));
    no(BEYOND, "part(6, 1)", x -> x.part(6, 1));
    no(KIND, "shows(9)", x -> x.shows(9));
    no(CLASH, "say(3, 4)", x -> x.say(3, 4));
    no(CLASH, "say(11, 3)", x -> x.say(11, 3));
    no(CLASH, "say(0, 2)", x -> x.say(0, 2));
    no(CLASH, "unlike(4, 11)", x -> x.unlike(4, 11));
    no(CLASH, "unlike(0, 0)", x -> x.unlike(0, 0));
    no(GONE, "drop(0)", x -> x.drop(0));
    no(GONE, "drop(2)", x -> x.drop(2));
    no(BEYOND, "drop(7)", x -> x.drop(7));
    no(OPEN, "why(1, 2)", x -> x.why(1, 2));
    no(OPEN, "least(1, 2, 500)", x -> x.least(1, 2, 500));
    no(OPEN, "least(3, 4, 1), ahead of SPENT", x -> x.least(3, 4, 1));
    no(SPENT, "least(8, 3, 1)", x -> x.least(8, 3, 1));
    no(SPENT, "least(0, 7, 3)", x -> x.least(0, 7, 3));
    no(BEYOND, "follow(3, 1)", x -> x.follow(3, 1));
    no(BEYOND, "claim(1, 14, 0, 0, 0)", x -> x.claim(1, 14, 0, 0, 0));
    no(BEYOND, "row(0, 14)", x -> x.row(0, 14));
  }

  private static void refusedWhenFull() {
    no(FULL, "name(91)", x -> x.name(91));
    no(FULL, "number(7)", x -> x.number(7));
    no(FULL, "built(0, 1, 0, 0, 0)", x -> x.built(0, 1, 0, 0, 0));
    no(FULL, "row(1, 0)", x -> x.row(1, 0));
    no(FULL, "even(0, 1, 0)", x -> x.even(0, 1, 0));
    no(NEGATIVE, "built(0, -1, 0, 0, 0), ahead of FULL", x -> x.built(0, -1, 0, 0, 0));
    no(FULL, "say(0, 0)", x -> x.say(0, 0));
    no(FULL, "say(93, 94), ahead of CLASH", x -> x.say(93, 94));
    no(FULL, "unlike(0, 0), ahead of CLASH", x -> x.unlike(0, 0));
    no(FULL, "law(0, 0)", x -> x.law(0, 0));
    no(FULL, "instance(91, 0, 0, 0)", x -> x.instance(91, 0, 0, 0));
    no(FULL, "claim(1, 0, 0, 0, 0)", x -> x.claim(1, 0, 0, 0, 0));
    no(SPENT, "least(0, 50, 500)", x -> x.least(0, 50, 500));
    no(OPEN, "why(0, 119)", x -> x.why(0, 119));
  }

  private static void refusedWithHolesAlone() {
    scene = Scenes::holesAlone;
    no(OPEN, "follow(0, 1)", x -> x.follow(0, 1));
    no(BEYOND, "follow(0, 51), ahead of OPEN", x -> x.follow(0, 51));
    no(BEYOND, "follow(1, 1), ahead of OPEN", x -> x.follow(1, 1));
  }

  /** Room for two TERMS, where an INSTANCE needs three. */
  private static void refusedWithLittleRoom() {
    scene = () -> {
      EqualCourt x = Scenes.busy();
      int t = x.built(2, 2, x.built(3, 1, 5, 0, 0), x.built(4, 1, 5, 0, 0), 0); // 16
      x.law(t, 3);
      for (int v = 100; x.many(0) < 118; v++) x.number(v);
      return x;
    };
    no(FULL, "instance(16, 0, 0, 0)", x -> x.instance(16, 0, 0, 0));
    no(BEYOND, "instance(16, 0, 118, 0), ahead of FULL", x -> x.instance(16, 0, 118, 0));
  }

  private static void asksAnywhere() {
    for (int n : new int[] {-1, 0, 3, 119, 120, MIN, MAX}) {
      ask("kind(" + n + ")", x -> x.kind(n));
      ask("said(" + n + ", 0)", x -> x.said(n, 0));
      ask("clashed(" + n + ")", x -> x.clashed(n));
      ask("judge(" + n + ", 2)", x -> x.judge(n, 2));
      ask("judge(4, " + n + ")", x -> x.judge(4, n));
      ask("because(" + n + ")", x -> x.because(n));
      ask("head(" + n + ")", x -> x.head(n));
      ask("member(" + n + ", 0)", x -> x.member(n, 0));
      ask("member(0, " + n + ")", x -> x.member(0, n));
      ask("uses(" + n + ", 0)", x -> x.uses(n, 0));
      ask("uses(0, " + n + ")", x -> x.uses(0, n));
      ask("world(" + n + ")", x -> x.world(n));
      ask("check(" + n + ", 0)", x -> x.check(n, 0));
    }
    for (int what : new int[] {-1, 0, 1, 2, 3, 4, 5, 6, 7, MIN, MAX}) {
      ask("many(" + what + ")", x -> x.many(what));
      ask("said(0, " + what + ")", x -> x.said(0, what));
    }
    ask("judge(0, 1)", x -> x.judge(0, 1));
    ask("judge(3, 4)", x -> x.judge(3, 4));
    ask("ended()", x -> x.ended());
    ask("status()", x -> x.status());
  }

  public static void main(String[] args) {
    e.about("an empty object");
    scene = EqualCourt::new;
    refusedAnywhere();
    refusedWhenEmpty();
    asksAnywhere();
    e.about("an object that holds a little of all");
    scene = Scenes::busy;
    refusedAnywhere();
    refusedWhenBusy();
    asksAnywhere();
    e.about("an object whose latest ACT was refused");
    scene = () -> {
      EqualCourt x = Scenes.busy();
      x.say(11, 3);
      return x;
    };
    refusedWhenBusy();
    asksAnywhere();
    for (boolean forth : new boolean[] {true, false}) {
      e.about("an object that has told all once more, " + (forth ? "forth" : "back"));
      scene = () -> Scenes.told(forth);
      refusedAnywhere();
      refusedWhenBusy();
      asksAnywhere();
    }
    e.about("an object without levels");
    scene = Scenes::level;
    no(MISSING, "pop()", x -> x.pop());
    e.about("a full object");
    scene = Scenes::full;
    refusedAnywhere();
    refusedWhenFull();
    no(FULL, "push()", x -> x.push());
    asksAnywhere();
    e.about("an object that is full but for levels");
    scene = () -> Scenes.full(3);
    refusedWhenFull();
    e.about("an object with HOLES alone");
    refusedWithHolesAlone();
    e.about("an object with little room");
    refusedWithLittleRoom();
    e.end();
  }
}
