/**
 * An ACT that is done changes what the document says and no more: what was told stays told ("the latest why() or
 * least() that was done", "the latest say(), unlike() or follow() that was refused as CLASH, or ended so", "the latest
 * follow() that was done"), and TERMS, SAYINGS, LAWS, STEPS and levels stay as they are but for those that it names.
 */
public final class DoneTest {
  private static final Twins.About[] ALL = Twins.About.values();
  private static final Expect e = new Expect();
  private static final Twins twins = new Twins(e);

  private static Twins.Scene scene;

  /** All but those. */
  private static Twins.About[] but(Twins.About... changed) {
    java.util.List<Twins.About> left = new java.util.ArrayList<>(java.util.List.of(ALL));
    left.removeAll(java.util.List.of(changed));
    return left.toArray(new Twins.About[0]);
  }

  private static void leaves(String text, Twins.Call act, Twins.About[] left) {
    twins.doneLeaves(text, scene, act, left);
  }

  private static void looks() {
    leaves("part(9, 0)", x -> x.part(9, 0), ALL);
    leaves("shows(0)", x -> x.shows(0), ALL);
    leaves("name(0), which is there", x -> x.name(0), ALL);
    leaves("number(5), which is there", x -> x.number(5), ALL);
    leaves("built(0, 1, 0, 0, 0), which is there", x -> x.built(0, 1, 0, 0, 0), ALL);
    leaves("row(0, 1), which is there", x -> x.row(0, 1), ALL);
    leaves("even(3, 0, 2), which is there", x -> x.even(3, 0, 2), ALL);
    leaves("instance(6, 0, 0, 0), which is there", x -> x.instance(6, 0, 0, 0), ALL);
  }

  private static void terms() {
    Twins.About[] left = but(Twins.About.NEW_TERMS, Twins.About.CLASSES);
    leaves("name(50)", x -> x.name(50), left);
    leaves("number(50)", x -> x.number(50), left);
    leaves("built(0, 1, 2, 0, 0)", x -> x.built(0, 1, 2, 0, 0), left);
    leaves("row(1, 0)", x -> x.row(1, 0), left);
    leaves("even(3, 2, 0)", x -> x.even(3, 2, 0), left);
    leaves("instance(6, 2, 2, 2)", x -> x.instance(6, 2, 2, 2), left);
  }

  private static void sayings() {
    Twins.About[] left = but(Twins.About.NEW_SAYINGS);
    leaves("say(9, 9), which makes nothing ONE", x -> x.say(9, 9), left);
    leaves("unlike(3, 4), which are it already", x -> x.unlike(3, 4), left);
    Twins.About[] unjudged = but(
        Twins.About.NEW_SAYINGS, Twins.About.OLD_JUDGEMENTS, Twins.About.NEW_TERMS, Twins.About.CLASSES);
    leaves("say(1, 2)", x -> x.say(1, 2), unjudged);
    leaves("unlike(0, 10)", x -> x.unlike(0, 10), unjudged);
    Twins.About[] untaken = but(Twins.About.NEW_SAYINGS, Twins.About.OLD_TAKEN, Twins.About.OLD_JUDGEMENTS,
        Twins.About.NEW_TERMS, Twins.About.CLASSES);
    leaves("drop(1)", x -> x.drop(1), untaken);
    leaves("drop(5)", x -> x.drop(5), untaken);
  }

  private static void judgements() {
    leaves("why(8, 3)", x -> x.why(8, 3), ALL);
    leaves("least(8, 3, 500)", x -> x.least(8, 3, 500), ALL);
    leaves("why(0, 0)", x -> x.why(0, 0), but(Twins.About.BECAUSE));
    leaves("why(3, 4)", x -> x.why(3, 4), but(Twins.About.BECAUSE));
    leaves("least(0, 0, 1)", x -> x.least(0, 0, 1), but(Twins.About.BECAUSE));
  }

  private static void levels() {
    leaves("push()", x -> x.push(), but(Twins.About.LEVELS));
    leaves("push(), then pop()", x -> x.push() + x.pop(), ALL);
    leaves("pop()", x -> x.pop(), but(Twins.About.LEVELS, Twins.About.NEW_SAYINGS, Twins.About.OLD_TAKEN,
        Twins.About.OLD_JUDGEMENTS, Twins.About.NEW_TERMS, Twins.About.CLASSES, Twins.About.STEPS));
  }

  private static void laws() {
    leaves("law(0, 1)", x -> x.law(0, 1), but(Twins.About.LAWS));
    leaves("follow(0, 1)", x -> x.follow(0, 1), but(Twins.About.ENDED, Twins.About.NEW_SAYINGS, Twins.About.NEW_TERMS,
        Twins.About.OLD_JUDGEMENTS, Twins.About.CLASSES));
    Twins.Scene before = scene;
    scene = () -> {
      EqualCourt x = before.make();
      x.drop(1);
      x.law(3, 4);
      x.law(2, 2);
      return x;
    };
    int last = scene.make().many(3) - 1;
    leaves("follow() of two NUMBERS, which ends as CLASH", x -> x.follow(last - 1, 1),
        but(Twins.About.ENDED, Twins.About.CLASHED));
    leaves("follow() of what is ONE", x -> x.follow(last, 1), but(Twins.About.ENDED));
    scene = before;
  }

  private static void steps() {
    leaves("claim(1, 0, 0, 0, 0)", x -> x.claim(1, 0, 0, 0, 0), but(Twins.About.STEPS));
    leaves("claim(7, 0, 0, 0, 0)", x -> x.claim(7, 0, 0, 0, 0), but(Twins.About.STEPS));
    leaves("unclaim()", x -> x.unclaim(), but(Twins.About.STEPS));
  }

  /** Otherwise nothing could be spoiled. */
  private static void isTold(EqualCourt x, int ended, int because, int clashed, int steps, int laws, int levels) {
    e.due("ended()", x.ended(), ended);
    e.due("because(0)", x.because(0), because);
    e.due("clashed(0)", x.clashed(0), clashed);
    e.due("many(4)", x.many(4), steps);
    e.due("many(3)", x.many(3), laws);
    e.due("many(5)", x.many(5), levels);
  }

  private static void onThisScene() {
    looks();
    terms();
    sayings();
    judgements();
    levels();
    laws();
    steps();
  }

  public static void main(String[] args) {
    for (boolean forth : new boolean[] {true, false}) {
      e.about("an object that has told all once more, " + (forth ? "forth" : "back"));
      scene = () -> Scenes.told(forth);
      isTold(scene.make(), 1, 3, 3, 4, 3, 3);
      onThisScene();
    }
    e.about("an object without levels");
    isTold(Scenes.level(), 1, 0, 0, 3, 2, 0);
    e.about("an object with HOLES alone");
    isTold(Scenes.holesAlone(), 0, 0, 0, 1, 1, 0);
    e.end();
  }
}
