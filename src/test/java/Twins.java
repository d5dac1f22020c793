import java.util.ArrayList;
import java.util.List;

/**
 * Two objects with the same past, but that one had a call more, must tell the same of all that the call does not
 * change. Each pair is asked a few things only, so that all stays within the 512 calls that the document promises.
 */
final class Twins {
  interface Scene {
    EqualCourt make();
  }

  interface Call {
    long on(EqualCourt x);
  }

  private record Question(String text, Call call) {}

  /** What can be asked of one thing; OLD_ ones are those that Scenes.busy() has at least. */
  enum About {
    OLD_TERMS, OLD_JUDGEMENTS, NEW_TERMS, CLASSES, OLD_SAYINGS, OLD_TAKEN, NEW_SAYINGS, BECAUSE, CLASHED, ENDED, LAWS,
    STEPS, LEVELS
  }

  private static final int AT_ONCE = 150;
  private static final int BUSY_TERMS = 14;
  private static final int BUSY_SAYINGS = 6;
  private static final int MIN = Integer.MIN_VALUE;
  private static final int MAX = Integer.MAX_VALUE;

  private final Expect e;
  private final List<List<Question>> groups = new ArrayList<>();
  private final List<List<Question>> futures = new ArrayList<>();

  Twins(Expect e) {
    this.e = e;
    for (About a : About.values()) groups.add(new ArrayList<>());
    for (int t = -1; t <= 120; t++) askOfTerm(t);
    for (int t : new int[] {MIN, MAX}) askOfTerm(t);
    for (int s = -1; s <= 100; s++) askOfSaying(s);
    About[] counted = {
      About.NEW_TERMS, About.NEW_SAYINGS, About.NEW_SAYINGS, About.LAWS, About.STEPS, About.LEVELS, About.CLASSES,
    };
    for (int what = 0; what <= 6; what++) {
      int w = what;
      ask(counted[what], "many(" + w + ")", x -> x.many(w));
    }
    ask(About.ENDED, "ended()", EqualCourt::ended);
    for (int[] ab : new int[][] {{0, 0}, {2, 2}, {8, 3}, {3, 8}, {99, 99}}) {
      ask(About.STEPS, "check(" + ab[0] + ", " + ab[1] + ")", x -> x.check(ab[0], ab[1]));
    }
    addFutures();
  }

  private void ask(About about, String text, Call call) {
    groups.get(about.ordinal()).add(new Question(text, call));
  }

  private void askOfTerm(int t) {
    boolean old = t >= 0 && t < BUSY_TERMS;
    About terms = old ? About.OLD_TERMS : About.NEW_TERMS;
    About judgements = old ? About.OLD_JUDGEMENTS : About.NEW_TERMS;
    ask(terms, "kind(" + t + ")", x -> x.kind(t));
    for (int k = 0; k < 3; k++) {
      int i = k;
      ask(terms, "part(" + t + ", " + i + ")", x -> x.part(t, i));
    }
    ask(terms, "shows(" + t + ")", x -> x.shows(t));
    ask(judgements, "head(" + t + ")", x -> x.head(t));
    ask(judgements, "member(" + t + ", 0)", x -> x.member(t, 0));
    for (int b : new int[] {0, 2, 3, 8, 119}) {
      ask(b < BUSY_TERMS ? judgements : About.NEW_TERMS, "judge(" + t + ", " + b + ")", x -> x.judge(t, b));
    }
    ask(About.CLASSES, "member(" + t + ", 1)", x -> x.member(t, 1));
    ask(About.CLASSES, "uses(" + t + ", 0)", x -> x.uses(t, 0));
    ask(About.CLASSES, "uses(" + t + ", 1)", x -> x.uses(t, 1));
    ask(About.CLASSES, "world(" + t + ")", x -> x.world(t));
  }

  private void askOfSaying(int s) {
    boolean old = s >= 0 && s < BUSY_SAYINGS;
    for (int k = 0; k < 4; k++) {
      int what = k;
      About about = !old ? About.NEW_SAYINGS : k == 3 ? About.OLD_TAKEN : About.OLD_SAYINGS;
      ask(about, "said(" + s + ", " + what + ")", x -> x.said(s, what));
    }
    ask(About.BECAUSE, "because(" + s + ")", x -> x.because(s));
    ask(About.CLASHED, "clashed(" + s + ")", x -> x.clashed(s));
  }

  /** What can't be asked for is seen by what comes later: each list is a run of calls of its own. */
  private void addFutures() {
    List<Question> levels = new ArrayList<>();
    for (int level = 0; level < 11; level++) {
      levels.add(new Question("pop()", EqualCourt::pop));
      for (int s : new int[] {0, 1, 2, 3, 4, 5, 50, 99}) {
        levels.add(new Question("said(" + s + ", 3)", x -> x.said(s, 3)));
      }
    }
    futures.add(levels);
    for (int k = 0; k < 3; k++) {
      int l = k == 2 ? 9 : k;
      List<Question> laws = new ArrayList<>();
      laws.add(new Question("follow(" + l + ", 50)", x -> x.follow(l, 50)));
      laws.add(new Question("ended()", EqualCourt::ended));
      for (int what = 0; what < 7; what++) {
        int w = what;
        laws.add(new Question("many(" + w + ")", x -> x.many(w)));
      }
      futures.add(laws);
    }
    List<Question> comers = new ArrayList<>();
    comers.add(new Question("law(0, 0)", x -> x.law(0, 0)));
    comers.add(new Question("claim(1, 0, 0, 0, 0)", x -> x.claim(1, 0, 0, 0, 0)));
    comers.add(new Question("push()", EqualCourt::push));
    comers.add(new Question("number(77)", x -> x.number(77)));
    comers.add(new Question("built(9, 1, 0, 0, 0)", x -> x.built(9, 1, 0, 0, 0)));
    comers.add(new Question("say(0, 0)", x -> x.say(0, 0)));
    comers.add(new Question("unclaim()", EqualCourt::unclaim));
    futures.add(comers);
  }

  /** An ACT that is refused changes nothing but status(), and what clashed() tells, if it is CLASH. */
  void refusedChangesNothing(String text, Scene scene, Call act, int finding) {
    EqualCourt x = scene.make();
    e.refused(x, text, act.on(x), finding);
    for (About a : About.values()) {
      if (a != About.CLASHED || finding != 4) compare(text, scene, act, a);
    }
    compareFutures(text, scene, act);
  }

  /** An ASK changes nothing, not even status(). */
  void askChangesNothing(String text, Scene scene, Call ask) {
    compare(text, scene, ask, List.of(new Question("status()", EqualCourt::status)));
    for (About a : About.values()) compare(text, scene, ask, a);
    compareFutures(text, scene, ask);
  }

  /** An ACT that is done, and what it leaves as it was. */
  void doneLeaves(String text, Scene scene, Call act, About... left) {
    EqualCourt x = scene.make();
    act.on(x);
    e.due(text + ", then status()", x.status(), 0);
    for (About a : left) compare(text, scene, act, a);
  }

  private void compareFutures(String text, Scene scene, Call call) {
    for (List<Question> future : futures) compare(text, scene, call, future);
  }

  private void compare(String text, Scene scene, Call call, About about) {
    compare(text, scene, call, groups.get(about.ordinal()));
  }

  private void compare(String text, Scene scene, Call call, List<Question> questions) {
    for (int from = 0; from < questions.size(); from += AT_ONCE) {
      EqualCourt x = scene.make();
      EqualCourt y = scene.make();
      call.on(y);
      for (Question q : questions.subList(from, Math.min(from + AT_ONCE, questions.size()))) {
        e.due(q.text + " behind " + text, q.call.on(y), q.call.on(x));
      }
    }
  }
}
