/** The boundary cases of STEPS and their REASONS, and of promises 30 to 33, sentence by sentence. */
public final class StepEdgesTest {
  private static final int BEYOND = 1, KIND = 2, FULL = 3, CLASH = 4, GONE = 5, OPEN = 6, SPENT = 7, NEGATIVE = 8,
      MISSING = 9;
  private static final int MIN = Integer.MIN_VALUE, MAX = Integer.MAX_VALUE;
  private static final Expect e = new Expect();

  /**
   * NAMES 0 to 5; f(0, 1) is 6, f(2, 3) is 7, ROWS of the same are 8 and 9, EVEN ones 10 and 11. SAYINGS: 0: 0 is 2;
   * 1: 1 is 3; 2: 4 is unlike 5; 3: ROW 8 is ROW 9; 4: 4 is 0, and is GONE.
   */
  private static EqualCourt scene() {
    EqualCourt x = Scenes.withNames(6);
    x.built(0, 2, 0, 1, 0);
    x.built(0, 2, 2, 3, 0);
    x.row(0, 1);
    x.row(2, 3);
    x.even(0, 0, 1);
    x.even(0, 2, 3);
    x.say(0, 2);
    x.say(1, 3);
    x.unlike(4, 5);
    x.say(8, 9);
    x.say(4, 0);
    x.drop(4);
    return x;
  }

  /** STEP 0: 0 is 2; STEP 1: 1 is 3; STEP 2: ROW 8 is ROW 9; STEP 3: 2 is 0. */
  private static EqualCourt begun() {
    EqualCourt x = scene();
    x.claim(0, 0, 2, 0, 0);
    x.claim(0, 1, 3, 1, 0);
    x.claim(0, 8, 9, 3, 0);
    x.claim(2, 2, 0, 0, 0);
    return x;
  }

  /** A fifth STEP behind those four. */
  private static void right(String why, int reason, int a, int b, int i, int j) {
    EqualCourt x = begun();
    e.fine(x, why, x.claim(reason, a, b, i, j), 4);
    e.due(why + ": right", x.check(a, b), -1);
  }

  private static void wrong(String why, int reason, int a, int b, int i, int j) {
    EqualCourt x = begun();
    e.fine(x, why, x.claim(reason, a, b, i, j), 4);
    e.due(why + ": wrong", x.check(a, b), 4);
    x.claim(1, 0, 0, 0, 0);
    e.due(why + ": wrong, with a right one behind it", x.check(0, 0), 4);
  }

  private static void claimsOfNoTerm() {
    e.about("promise 30: 'BEYOND: a or b is no TERM'");
    EqualCourt x = Scenes.withNames(2);
    for (int bad : new int[] {-1, 2, 119, 120, MIN, MAX}) {
      e.refused(x, "a is " + bad, x.claim(1, bad, 0, 0, 0), BEYOND);
      e.refused(x, "b is " + bad, x.claim(1, 0, bad, 0, 0), BEYOND);
      e.refused(x, "both are " + bad, x.claim(1, bad, bad, 0, 0), BEYOND);
    }
    e.due("many(4)", x.many(4), 0);
    e.fine(x, "the last TERM", x.claim(1, 1, 1, 0, 0), 0);
  }

  private static void aHundredSteps() {
    e.about("promise 30: 'FULL: there are 100'");
    EqualCourt x = Scenes.withNames(2);
    for (int k = 0; k < 99; k++) e.fine(x, "STEP " + k, x.claim(1, 0, 0, 0, 0), k);
    e.fine(x, "the 100th", x.claim(1, 1, 1, 0, 0), 99);
    e.refused(x, "the 101st", x.claim(1, 1, 1, 0, 0), FULL);
    e.refused(x, "BEYOND ahead of FULL", x.claim(1, 2, 1, 0, 0), BEYOND);
    e.refused(x, "BEYOND ahead of FULL", x.claim(1, 1, -1, 0, 0), BEYOND);
    e.due("many(4)", x.many(4), 100);
    e.due("all are right", x.check(1, 1), -1);
    e.due("the last is of others", x.check(0, 0), 100);
    e.fine(x, "unclaim()", x.unclaim(), 100);
    e.fine(x, "numbered from 0 on", x.claim(1, 1, 1, 0, 0), 0);
  }

  private static void anyReasonIsClaimed() {
    e.about("promise 30: '(Whether it is right is looked for by check().)'");
    EqualCourt x = Scenes.withNames(2);
    int k = 0;
    for (int odd : new int[] {-1, 0, 1, 7, 100, MIN, MAX}) {
      e.fine(x, "REASON " + odd, x.claim(odd, 0, 1, 0, 0), k++);
      e.fine(x, "i " + odd, x.claim(0, 0, 1, odd, 0), k++);
      e.fine(x, "j " + odd, x.claim(3, 0, 1, 0, odd), k++);
    }
    e.due("the first is wrong", x.check(0, 1), 0);
  }

  private static void unclaimed() {
    e.about("promise 31: 'all STEPS are forgotten. Answers how many there were'");
    EqualCourt x = Scenes.withNames(2);
    e.fine(x, "none", x.unclaim(), 0);
    x.claim(7, 0, 0, 0, 0);
    e.due("check(0, 0)", x.check(0, 0), 0);
    x.pop();
    e.fine(x, "one", x.unclaim(), 1);
    e.due("many(4)", x.many(4), 0);
    e.fine(x, "none again", x.unclaim(), 0);
    x.claim(1, 1, 1, 0, 0);
    e.due("the wrong one is forgotten", x.check(1, 1), -1);
    x.claim(2, 1, 1, 1, 0);
    e.due("no STEP 1 ahead of it", x.check(1, 1), 1);
  }

  private static void checkWithoutSteps() {
    e.about("promise 32: 'how many there are, if .. there is none'");
    EqualCourt x = Scenes.withNames(2);
    for (int t : new int[] {0, 1, -1, 2, MIN, MAX}) {
      e.due("check(" + t + ", " + t + ")", x.check(t, t), 0);
    }
    x.claim(1, 0, 0, 0, 0);
    x.unclaim();
    e.due("check(0, 0) when they are forgotten", x.check(0, 0), 0);
  }

  private static void checkTheLastStep() {
    e.about("promise 32: 'how many there are, if all are, but the last one doesn't say that of a and b'");
    EqualCourt x = scene();
    x.claim(0, 0, 2, 0, 0);
    e.due("check(0, 2)", x.check(0, 2), -1);
    e.due("the other order", x.check(2, 0), 1);
    e.due("another", x.check(0, 0), 1);
    for (int t : new int[] {-1, 12, 119, 120, MIN, MAX}) {
      e.due("check(0, " + t + ")", x.check(0, t), 1);
      e.due("check(" + t + ", 2)", x.check(t, 2), 1);
    }
    x.claim(1, 5, 5, 0, 0);
    e.due("check(5, 5)", x.check(5, 5), -1);
    e.due("the first is not the last", x.check(0, 2), 2);
  }

  private static void checkTheFirstThatIsWrong() {
    e.about("promise 32: 'the number of the first that is not right'");
    EqualCourt x = scene();
    for (int k = 0; k < 99; k++) x.claim(1, 0, 0, 0, 0);
    x.claim(7, 0, 0, 0, 0);
    e.due("the 100th", x.check(0, 0), 99);
    x.unclaim();
    x.claim(7, 0, 0, 0, 0);
    x.claim(7, 0, 0, 0, 0);
    e.due("the first of two", x.check(0, 0), 0);
    x.unclaim();
    x.claim(1, 0, 0, 0, 0);
    x.claim(7, 0, 0, 0, 0);
    x.claim(7, 0, 0, 0, 0);
    e.due("the second", x.check(1, 1), 1);
  }

  private static void reason0() {
    e.about("Terms: '0: SAYING i is TAKEN, SAME, and of a and b, in whatever order'");
    right("as said", 0, 0, 2, 0, MIN);
    right("turned", 0, 2, 0, 0, MAX);
    wrong("of the first twice", 0, 0, 0, 0, 0);
    wrong("of the second twice", 0, 2, 2, 0, 0);
    wrong("the first alone", 0, 0, 3, 0, 0);
    wrong("the second alone", 0, 3, 2, 0, 0);
    wrong("another SAYING", 0, 0, 2, 1, 0);
    wrong("UNLIKE", 0, 4, 5, 2, 0);
    wrong("GONE", 0, 4, 0, 4, 0);
    wrong("no such SAYING", 0, 0, 2, 5, 0);
    wrong("SAYING -1", 0, 0, 2, -1, 0);
    wrong("SAYING 99", 0, 0, 2, 99, 0);
    wrong("SAYING 100", 0, 0, 2, 100, 0);
    wrong("SAYING MIN", 0, 0, 2, MIN, 0);
    wrong("SAYING MAX", 0, 0, 2, MAX, 0);
    e.about("promise 32: '(by COURT as it is)'");
    EqualCourt x = scene();
    x.push();
    int s = x.say(5, 3);
    x.claim(0, 3, 5, s, 0);
    e.due("TAKEN", x.check(3, 5), -1);
    x.pop();
    e.due("GONE by pop()", x.check(3, 5), 0);
    x.say(5, 3);
    e.due("another SAYING of the same", x.check(3, 5), 0);
    EqualCourt full = Scenes.chain(101);
    full.claim(0, 100, 99, 99, 0);
    e.due("the 100th SAYING", full.check(100, 99), -1);
  }

  private static void reason1() {
    e.about("Terms: '1: a is b'");
    right("a is b", 1, 11, 11, MIN, MAX);
    wrong("they are ONE", 1, 0, 2, 0, 0);
  }

  private static void reason2() {
    e.about("Terms: '2: STEP i, ahead of it, says that of b and a'");
    right("STEP 0", 2, 2, 0, 0, MIN);
    right("STEP 3, just ahead of it", 2, 0, 2, 3, MAX);
    wrong("the same order", 2, 0, 2, 0, 0);
    wrong("another a", 2, 3, 0, 0, 0);
    wrong("another b", 2, 2, 1, 0, 0);
    wrong("STEP -1", 2, 2, 0, -1, 0);
    wrong("STEP 4, which is itself", 2, 5, 5, 4, 0);
    wrong("STEP 5, which is not there", 2, 2, 0, 5, 0);
    wrong("STEP MIN", 2, 2, 0, MIN, 0);
    wrong("STEP MAX", 2, 2, 0, MAX, 0);
    EqualCourt x = scene();
    x.claim(2, 2, 0, 1, 0);
    x.claim(0, 0, 2, 0, 0);
    e.due("a STEP behind it", x.check(0, 2), 0);
  }

  private static void reason3() {
    e.about("Terms: '3: STEPS i and j, ahead of it, say that of a and some TERM, and of that and b'");
    right("STEPS 0 and 3", 3, 0, 0, 0, 3);
    right("STEPS 3 and 0", 3, 2, 2, 3, 0);
    wrong("in the other order", 3, 0, 0, 3, 0);
    wrong("no TERM between them", 3, 0, 3, 0, 1);
    wrong("another a", 3, 1, 0, 0, 3);
    wrong("another b", 3, 0, 1, 0, 3);
    wrong("i is -1", 3, 0, 0, -1, 3);
    wrong("j is -1", 3, 0, 0, 0, -1);
    wrong("i is itself", 3, 0, 2, 4, 3);
    wrong("j is itself", 3, 0, 0, 0, 4);
    wrong("i is not there", 3, 0, 0, 5, 3);
    wrong("j is not there", 3, 0, 0, 0, 5);
    wrong("i is MIN", 3, 0, 0, MIN, 3);
    wrong("j is MAX", 3, 0, 0, 0, MAX);
    EqualCourt x = scene();
    x.claim(1, 0, 0, 0, 0);
    e.fine(x, "one STEP twice", x.claim(3, 0, 0, 0, 0), 1);
    e.due("one STEP twice", x.check(0, 0), -1);
    EqualCourt y = scene();
    y.claim(1, 0, 0, 0, 0);
    y.claim(3, 0, 2, 0, 2);
    y.claim(0, 0, 2, 0, 0);
    e.due("a STEP behind it", y.check(0, 2), 1);
    y.unclaim();
    y.claim(1, 5, 5, 0, 0);
    y.claim(3, 5, 3, 0, 1);
    e.due("j is itself, that says it", y.check(5, 3), 1);
    y.unclaim();
    y.claim(1, 5, 5, 0, 0);
    y.claim(3, 3, 5, 1, 0);
    e.due("i is itself, that says it", y.check(3, 5), 1);
  }

  private static void reason4() {
    e.about("Terms: '4: .. place by place .. or some STEP ahead of it says that of them, in this order'");
    right("BUILT ones", 4, 6, 7, 0, 0);
    right("BUILT ones, i and j are no matter", 4, 6, 7, MIN, MAX);
    right("BUILT ones, i is 1", 4, 6, 7, 1, 0);
    right("a BUILT one and itself: the same TERMS", 4, 6, 6, 0, 0);
    right("ROWS", 4, 8, 9, 0, 0);
    right("ROWS, i is 1", 4, 8, 9, 1, 0);
    right("EVEN ones", 4, 10, 11, 0, 0);
    right("EVEN ones, i is 2", 4, 10, 11, 2, 0);
    wrong("BUILT ones, in the other order", 4, 7, 6, 0, 0);
    wrong("ROWS, in the other order", 4, 9, 8, 0, 0);
    wrong("EVEN ones, in the other order", 4, 11, 10, 0, 0);
    wrong("EVEN ones, each at the other place", 4, 10, 11, 1, 0);
    wrong("NAMES, though they are the same", 4, 0, 0, 0, 0);
    wrong("a BUILT one and a ROW", 4, 6, 9, 0, 0);
    wrong("a BUILT one and an EVEN one with the same HEAD", 4, 6, 11, 0, 0);
    wrong("a ROW and an EVEN one", 4, 8, 11, 0, 0);
    wrong("a NAME and a BUILT one", 4, 0, 6, 0, 0);
  }

  private static void reason4AtEachPlace() {
    e.about("Terms: '4: .. with the same HEAD and as many PARTS'");
    EqualCourt x = Scenes.withNames(6);
    int[] fs = {x.built(0, 1, 0, 0, 0), x.built(0, 2, 0, 1, 0), x.built(0, 3, 0, 1, 2)};
    int[] gs = {x.built(0, 1, 3, 0, 0), x.built(0, 2, 3, 4, 0), x.built(0, 3, 3, 4, 5)};
    int other = x.built(1, 1, 3, 0, 0), even = x.even(0, 0, 1), evenOther = x.even(1, 3, 4), number = x.number(0);
    for (int s = 0; s < 3; s++) x.say(s, s + 3);
    for (int many = 1; many <= 3; many++) {
      for (int lacks = -1; lacks < many; lacks++) {
        x.unclaim();
        int k = 0;
        for (int s = 0; s < 3; s++) if (s != lacks) k = x.claim(0, s, s + 3, s, 0) + 1;
        int f = fs[many - 1], g = gs[many - 1];
        x.claim(4, f, g, 0, 0);
        e.due(many + " PARTS, STEP for PART " + lacks + " lacks", x.check(f, g), lacks < 0 ? -1 : k);
      }
    }
    int[][] unlike = {
      {fs[0], other}, {fs[0], gs[1]}, {fs[1], gs[0]}, {fs[1], gs[2]}, {even, evenOther}, {number, number},
    };
    for (int[] ab : unlike) {
      x.unclaim();
      for (int s = 0; s < 3; s++) x.claim(0, s, s + 3, s, 0);
      x.claim(4, ab[0], ab[1], 0, 0);
      e.due("another HEAD, not as many PARTS, or none: " + ab[0] + " and " + ab[1], x.check(ab[0], ab[1]), 3);
    }
    int ofZero = x.built(2, 1, number, 0, 0), ofOne = x.built(2, 1, x.number(1), 0, 0), of0 = x.built(2, 1, 0, 0, 0);
    for (int[] ab : new int[][] {{ofZero, ofOne}, {ofZero, of0}, {of0, x.built(2, 1, 1, 0, 0)}}) {
      x.unclaim();
      x.claim(4, ab[0], ab[1], 0, 0);
      e.due("PARTS of which no STEP says it: " + ab[0] + " and " + ab[1], x.check(ab[0], ab[1]), 0);
    }
    x.unclaim();
    x.claim(0, 0, 3, 0, 0);
    x.claim(4, fs[1], gs[1], 0, 0);
    x.claim(0, 1, 4, 1, 0);
    e.due("a STEP behind it", x.check(1, 4), 1);
    // Their neighbours have other PARTS, and the last TERM has no neighbour.
    EqualCourt y = Scenes.withNames(4);
    int f = y.built(0, 3, 0, 0, 0);
    y.row(2, 2);
    int g = y.built(0, 3, 1, 1, 1);
    y.row(3, 3);
    for (int v = 0; v < 111; v++) y.number(v);
    int last = y.built(0, 3, 1, 0, 1);
    e.due("the last TERM", last, 119);
    y.say(0, 1);
    y.claim(0, 0, 1, 0, 0);
    y.claim(4, f, g, 0, 0);
    e.due("three PARTS and no more", y.check(f, g), -1);
    y.claim(4, f, last, 0, 0);
    e.due("three PARTS of the last TERM", y.check(f, last), -1);
    y.claim(4, last, last, 0, 0);
    e.due("the last TERM and itself", y.check(last, last), -1);
  }

  private static void reason4EvenOnes() {
    e.about("Terms: '4: .. (if i is 1, EVEN ones: each with the other's at the other place)'");
    EqualCourt x = Scenes.withNames(4);
    int v = x.even(0, 0, 1), w = x.even(0, 3, 2), turned = x.even(0, 1, 0), other = x.even(1, 3, 2);
    x.say(0, 2);
    x.say(1, 3);
    int[][] rows = {
      {v, w, 1, -1}, {v, w, 0, 2}, {v, w, 2, 2}, {v, w, -1, 2}, {v, w, MIN, 2}, {v, w, MAX, 2},
      {w, v, 1, 2}, {v, other, 1, 2}, {v, turned, 1, -1}, {v, turned, 0, 2}, {v, v, 0, -1}, {v, v, 1, 2},
    };
    for (int[] r : rows) {
      x.unclaim();
      x.claim(0, 0, 2, 0, 0);
      x.claim(0, 1, 3, 1, 0);
      x.claim(4, r[0], r[1], r[2], 0);
      e.due("even " + r[0] + " and " + r[1] + ", i " + r[2], x.check(r[0], r[1]), r[3]);
    }
    for (int lacks = 0; lacks < 2; lacks++) {
      x.unclaim();
      x.claim(0, 1 - lacks, 3 - lacks, 1 - lacks, 0);
      x.claim(4, v, w, 1, 0);
      e.due("the STEP for PART " + lacks + " lacks", x.check(v, w), 1);
    }
  }

  private static void reasons5And6() {
    e.about("Terms: '5, 6: STEP i .. says that of two ROWS of which a and b are the FIRSTS (5), the RESTS (6)'");
    right("FIRSTS", 5, 0, 2, 2, MIN);
    right("RESTS", 6, 1, 3, 2, MAX);
    wrong("RESTS as FIRSTS", 5, 1, 3, 2, 0);
    wrong("FIRSTS as RESTS", 6, 0, 2, 2, 0);
    wrong("FIRSTS in the other order", 5, 2, 0, 2, 0);
    wrong("RESTS in the other order", 6, 3, 1, 2, 0);
    wrong("another a", 5, 1, 2, 2, 0);
    wrong("another b", 6, 1, 2, 2, 0);
    for (int reason = 5; reason <= 6; reason++) {
      int a = reason - 5, b = reason - 3;
      wrong("STEP 0 is of NAMES", reason, a, b, 0, 0);
      wrong("STEP -1", reason, a, b, -1, 0);
      wrong("STEP 4, which is itself", reason, a, b, 4, 0);
      wrong("STEP 5, which is not there", reason, a, b, 5, 0);
      wrong("STEP MIN", reason, a, b, MIN, 0);
      wrong("STEP MAX", reason, a, b, MAX, 0);
    }
    EqualCourt z = scene();
    z.claim(0, 8, 9, 3, 0);
    z.claim(5, 0, 2, 0, 0);
    e.due("FIRSTS by STEP 0", z.check(0, 2), -1);
    z.claim(6, 1, 3, 0, 0);
    e.due("RESTS by STEP 0", z.check(1, 3), -1);
    EqualCourt x = scene();
    x.say(8, 6);
    x.say(10, 11);
    x.claim(0, 8, 6, 5, 0);
    x.claim(5, 0, 0, 0, 0);
    e.due("a ROW and a BUILT one", x.check(0, 0), 1);
    x.unclaim();
    x.claim(0, 6, 8, 5, 0);
    x.claim(6, 1, 1, 0, 0);
    e.due("a BUILT one and a ROW", x.check(1, 1), 1);
    x.unclaim();
    x.claim(0, 10, 11, 6, 0);
    x.claim(5, 0, 2, 0, 0);
    e.due("EVEN ones", x.check(0, 2), 1);
    x.unclaim();
    x.claim(4, 6, 6, 0, 0);
    x.claim(6, 1, 1, 0, 0);
    e.due("BUILT ones", x.check(1, 1), 1);
    x.unclaim();
    x.claim(5, 0, 2, 1, 0);
    x.claim(0, 8, 9, 3, 0);
    e.due("a STEP behind it", x.check(8, 9), 0);
  }

  private static void otherReasons() {
    e.about("Terms: 'Another REASON is never right'");
    for (int reason : new int[] {-1, 7, 8, MIN, MAX}) {
      wrong("REASON " + reason + " of a and a", reason, 0, 0, 0, 0);
      wrong("REASON " + reason + " of a and b", reason, 0, 2, 0, 3);
    }
  }

  private static void statusOfEachFinding() {
    e.about("promise 33: 'the FINDING of the latest ACT, 0 ahead of any'");
    EqualCourt x = new EqualCourt();
    e.due("new", x.status(), 0);
    x.kind(0);
    x.check(0, 0);
    e.due("ahead of any ACT", x.status(), 0);
    x.pop();
    e.due("MISSING", x.status(), MISSING);
    x.name(-1);
    e.due("BEYOND", x.status(), BEYOND);
    x.name(0);
    e.due("done", x.status(), 0);
    x.part(0, 0);
    e.due("KIND", x.status(), KIND);
    x.built(0, -1, 0, 0, 0);
    e.due("NEGATIVE", x.status(), NEGATIVE);
    x.unlike(0, 0);
    e.due("CLASH", x.status(), CLASH);
    x.why(0, x.name(1));
    e.due("OPEN", x.status(), OPEN);
    x.say(0, 1);
    x.least(0, 1, 1);
    e.due("SPENT", x.status(), SPENT);
    x.status();
    e.due("asked for again", x.status(), SPENT);
    x.drop(0);
    x.drop(0);
    e.due("GONE", x.status(), GONE);
    for (int level = 0; level < 11; level++) x.push();
    e.due("FULL", x.status(), FULL);
    x.unclaim();
    e.due("unclaim() is an ACT", x.status(), 0);
  }

  private static void actsThatAreDoneEndTheFinding() {
    e.about("Terms: 'One that is done answers what it says; status() is 0 then'");
    EqualCourt x = Scenes.withNames(2);
    int row = x.row(0, 1), hole = x.name(90);
    Twins.Call[] acts = {
      y -> y.name(5), y -> y.number(5), y -> y.built(0, 1, 0, 0, 0), y -> y.row(0, 0), y -> y.even(0, 0, 0),
      y -> y.part(row, 0), y -> y.shows(0), y -> y.say(0, 1), y -> y.unlike(0, row), y -> y.drop(0), y -> y.say(0, 1),
      y -> y.why(0, 1), y -> y.least(0, 1, 9), y -> y.push(), y -> y.pop(), y -> y.law(hole, hole),
      y -> y.instance(0, 0, 0, 0), y -> y.follow(0, 1), y -> y.claim(9, 0, 0, 0, 0), y -> y.unclaim()};
    for (int k = 0; k < acts.length; k++) {
      x.name(100);
      e.due("a refused one ahead of ACT " + k, x.status(), BEYOND);
      acts[k].on(x);
      e.due("ACT " + k, x.status(), 0);
    }
    e.about("promise 28: a follow() that ends by TERMS, SAYINGS or CLASH is done");
    EqualCourt y = Scenes.withNames(2);
    y.law(y.number(0), y.number(1));
    e.fine(y, "CLASH", y.follow(0, 1), 0);
    EqualCourt z = Scenes.lawful(2);
    for (int s = 0; s < 100; s++) z.say(0, 0);
    e.fine(z, "SAYINGS", z.follow(0, 1), 0);
    EqualCourt w = Scenes.lawful(90);
    for (int v = 0; w.many(0) < 120; v++) w.number(v);
    e.fine(w, "TERMS", w.follow(0, 1), 0);
  }

  public static void main(String[] args) {
    claimsOfNoTerm();
    aHundredSteps();
    anyReasonIsClaimed();
    unclaimed();
    checkWithoutSteps();
    checkTheLastStep();
    checkTheFirstThatIsWrong();
    reason0();
    reason1();
    reason2();
    reason3();
    reason4();
    reason4AtEachPlace();
    reason4EvenOnes();
    reasons5And6();
    otherReasons();
    statusOfEachFinding();
    actsThatAreDoneEndTheFinding();
    e.end();
  }
}
