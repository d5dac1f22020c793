import java.util.ArrayList;
import java.util.List;

/**
 * Two objects with the same past, but that one had a call more, must tell the same of all that can be asked. Each
 * pair is asked a few things only, so that all stays within the 512 calls that the document promises.
 */
final class Twins {
  interface Scene {
    EqualCourt make();
  }

  interface Call {
    long on(EqualCourt x);
  }

  private record Question(String text, Call call) {}

  private static final int AT_ONCE = 150;
  private static final int MIN = Integer.MIN_VALUE;
  private static final int MAX = Integer.MAX_VALUE;

  private final Expect e;
  private final List<Question> asks = new ArrayList<>();
  private final List<Question> cores = new ArrayList<>();
  private final List<Question> acts = new ArrayList<>();
  private final List<List<Question>> futures = new ArrayList<>();

  Twins(Expect e) {
    this.e = e;
    for (int t = -1; t <= 120; t++) askOfTerm(t);
    for (int t : new int[] {MIN, MAX}) askOfTerm(t);
    for (int s = -1; s <= 100; s++) askOfSaying(s);
    for (int what = -1; what <= 7; what++) {
      int w = what;
      asks.add(new Question("many(" + w + ")", x -> x.many(w)));
    }
    asks.add(new Question("ended()", EqualCourt::ended));
    askOfSteps();
    addFutures();
  }

  private void askOfTerm(int t) {
    asks.add(new Question("kind(" + t + ")", x -> x.kind(t)));
    asks.add(new Question("head(" + t + ")", x -> x.head(t)));
    asks.add(new Question("world(" + t + ")", x -> x.world(t)));
    for (int k = 0; k < 2; k++) {
      int i = k;
      asks.add(new Question("member(" + t + ", " + i + ")", x -> x.member(t, i)));
      asks.add(new Question("uses(" + t + ", " + i + ")", x -> x.uses(t, i)));
    }
    for (int b : new int[] {0, 2, 3, 8, 119}) {
      asks.add(new Question("judge(" + t + ", " + b + ")", x -> x.judge(t, b)));
    }
    for (int k = 0; k < 3; k++) {
      int i = k;
      acts.add(new Question("part(" + t + ", " + i + ")", x -> x.part(t, i)));
    }
    acts.add(new Question("shows(" + t + ")", x -> x.shows(t)));
  }

  private void askOfSaying(int s) {
    for (int k = 0; k < 4; k++) {
      int what = k;
      asks.add(new Question("said(" + s + ", " + what + ")", x -> x.said(s, what)));
    }
    asks.add(new Question("because(" + s + ")", x -> x.because(s)));
    cores.add(new Question("clashed(" + s + ")", x -> x.clashed(s)));
  }

  private void askOfSteps() {
    for (int[] ab : new int[][] {{0, 0}, {8, 3}, {3, 8}, {99, 99}}) {
      asks.add(new Question("check(" + ab[0] + ", " + ab[1] + ")", x -> x.check(ab[0], ab[1])));
    }
  }

  /** What can't be asked for is seen by what comes later: each list is a run of calls of its own. */
  private void addFutures() {
    List<Question> levels = new ArrayList<>();
    for (int level = 0; level < 11; level++) {
      levels.add(new Question("pop()", EqualCourt::pop));
      for (int s : new int[] {0, 1, 2, 3, 4, 5, 50, 99}) {
        levels.add(new Question("said(" + s + ", 3)", x -> x.said(s, 3)));
      }
    }
    futures.add(levels);
    for (int k = 0; k < 3; k++) {
      int l = k == 2 ? 9 : k;
      List<Question> laws = new ArrayList<>();
      laws.add(new Question("follow(" + l + ", 50)", x -> x.follow(l, 50)));
      laws.add(new Question("ended()", EqualCourt::ended));
      for (int what = 0; what < 7; what++) {
        int w = what;
        laws.add(new Question("many(" + w + ")", x -> x.many(w)));
      }
      futures.add(laws);
    }
    List<Question> comers = new ArrayList<>();
    comers.add(new Question("law(0, 0)", x -> x.law(0, 0)));
    comers.add(new Question("claim(1, 0, 0, 0, 0)", x -> x.claim(1, 0, 0, 0, 0)));
    comers.add(new Question("push()", EqualCourt::push));
    comers.add(new Question("number(77)", x -> x.number(77)));
    comers.add(new Question("built(9, 1, 0, 0, 0)", x -> x.built(9, 1, 0, 0, 0)));
    comers.add(new Question("say(0, 0)", x -> x.say(0, 0)));
    comers.add(new Question("unclaim()", EqualCourt::unclaim));
    futures.add(comers);
  }

  /** An ACT that is refused changes nothing but status(), and what clashed() tells, if it is CLASH. */
  void refusedChangesNothing(String text, Scene scene, Call act, int finding) {
    EqualCourt x = scene.make();
    e.refused(x, text, act.on(x), finding);
    compare(text, scene, act, asks);
    if (finding != 4) compare(text, scene, act, cores);
    compareFuture(text, scene, act);
  }

  /** An ASK changes nothing, not even status(). */
  void askChangesNothing(String text, Scene scene, Call ask) {
    compare(text, scene, ask, List.of(new Question("status()", EqualCourt::status)));
    compare(text, scene, ask, asks);
    compare(text, scene, ask, cores);
    compareFuture(text, scene, ask);
  }

  private void compareFuture(String text, Scene scene, Call call) {
    compare(text, scene, call, acts);
    for (List<Question> future : futures) compare(text, scene, call, future);
  }

  private void compare(String text, Scene scene, Call call, List<Question> questions) {
    for (int from = 0; from < questions.size(); from += AT_ONCE) {
      EqualCourt x = scene.make();
      EqualCourt y = scene.make();
      call.on(y);
      for (Question q : questions.subList(from, Math.min(from + AT_ONCE, questions.size()))) {
        e.due(q.text + " behind " + text, q.call.on(y), q.call.on(x));
      }
    }
  }
}
