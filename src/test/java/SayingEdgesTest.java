/** The boundary cases of what is ONE, of CLASHES and CORES, and of promises 11 to 15, sentence by sentence. */
public final class SayingEdgesTest {
  private static final int BEYOND = 1, FULL = 3, CLASH = 4, GONE = 5;
  private static final int MIN = Integer.MIN_VALUE, MAX = Integer.MAX_VALUE;
  private static final int NONE = EqualCourt.NONE;
  private static final Expect e = new Expect();

  private static void oneWithItself() {
    e.about("Terms: 'a TERM is ONE with itself'");
    EqualCourt x = Scenes.tower(120);
    for (int t : new int[] {0, 1, 119}) e.due("judge(" + t + ", " + t + ")", x.judge(t, t), 1);
    e.due("by no SAYING none is ONE with another", x.many(6), 120);
  }

  private static void oneEitherWay() {
    e.about("Terms: 'if a is ONE with b, b is with a'");
    EqualCourt x = Scenes.withNames(3);
    x.say(1, 0);
    e.due("judge(0, 1)", x.judge(0, 1), 1);
    e.due("judge(1, 0)", x.judge(1, 0), 1);
    e.due("judge(0, 2)", x.judge(0, 2), 2);
    e.due("judge(2, 0)", x.judge(2, 0), 2);
  }

  private static void oneByAnother() {
    e.about("Terms: 'if a is with b and b with c, a is with c'");
    EqualCourt x = Scenes.chain(101);
    e.due("a hundred SAYINGS long", x.judge(0, 100), 1);
    x.drop(50);
    e.due("without one of them", x.judge(0, 100), 2);
    e.due("ahead of it", x.judge(0, 50), 1);
    e.due("behind it", x.judge(51, 100), 1);
  }

  private static void builtOnesByTheirParts() {
    e.about("Terms: 'two BUILT ones with the same HEAD and as many PARTS are, if their PARTS are'");
    EqualCourt x = Scenes.withNames(6);
    int f = x.built(0, 1, 0, 0, 0), g = x.built(0, 1, 3, 0, 0), f1 = x.built(1, 1, 3, 0, 0);
    int ff = x.built(0, 2, 0, 1, 0), gg = x.built(0, 2, 3, 4, 0), gx = x.built(0, 2, 4, 3, 0);
    int fff = x.built(0, 3, 0, 1, 2), ggg = x.built(0, 3, 3, 4, 5);
    x.say(0, 3);
    e.due("one PART", x.judge(f, g), 1);
    e.due("another HEAD", x.judge(f, f1), 2);
    e.due("one of two PARTS", x.judge(ff, gg), 2);
    x.say(1, 4);
    e.due("two PARTS", x.judge(ff, gg), 1);
    e.due("each at its place alone", x.judge(ff, gx), 2);
    e.due("two of three PARTS", x.judge(fff, ggg), 2);
    x.say(2, 5);
    e.due("three PARTS", x.judge(fff, ggg), 1);
    x.say(0, 1);
    x.say(1, 2);
    e.due("not as many PARTS, 1 and 2", x.judge(f, ff), 2);
    e.due("not as many PARTS, 2 and 3", x.judge(ff, fff), 2);
    e.due("their PARTS are ONE at the other place too now", x.judge(ff, gx), 1);
  }

  private static void builtOnesSayNothingOfTheirParts() {
    e.about("Terms: 'by no more than this': PARTS of BUILT and EVEN ones");
    EqualCourt x = Scenes.withNames(4);
    x.say(x.built(0, 1, 0, 0, 0), x.built(0, 1, 1, 0, 0));
    x.say(x.built(0, 3, 0, 0, 0), x.built(0, 3, 1, 1, 1));
    x.say(x.even(0, 0, 0), x.even(0, 1, 1));
    e.due("judge(0, 1)", x.judge(0, 1), 2);
    x.say(x.row(2, 2), x.built(0, 2, 3, 3, 0));
    e.due("a ROW and a BUILT one", x.judge(2, 3), 2);
  }

  private static void rowsByTheirParts() {
    e.about("Terms: 'two ROWS likewise'");
    EqualCourt x = Scenes.withNames(4);
    int r = x.row(0, 1), q = x.row(2, 3), turned = x.row(3, 2), even = x.even(0, 0, 1), built = x.built(0, 2, 0, 1, 0);
    x.say(0, 2);
    e.due("the FIRSTS alone", x.judge(r, q), 2);
    x.say(1, 3);
    e.due("both", x.judge(r, q), 1);
    e.due("not at the other place", x.judge(r, turned), 2);
    e.due("a ROW and an EVEN one", x.judge(r, even), 2);
    e.due("a ROW and a BUILT one", x.judge(r, built), 2);
    e.due("an EVEN and a BUILT one with the same HEAD", x.judge(even, built), 2);
  }

  private static void evenOnesByTheirParts() {
    e.about("Terms: 'two EVEN ones .. each with the other's at the other place'");
    EqualCourt x = Scenes.withNames(4);
    int v = x.even(0, 0, 1), straight = x.even(0, 2, 3), crossed = x.even(0, 3, 2), other = x.even(1, 3, 2);
    int both = x.even(0, 2, 2);
    e.due("turned by no SAYING", x.judge(v, x.even(0, 1, 0)), 1);
    x.say(0, 2);
    e.due("one PART alone", x.judge(v, straight), 2);
    e.due("one PART alone, crossed", x.judge(v, crossed), 2);
    e.due("one PART with both", x.judge(v, both), 2);
    x.say(1, 3);
    e.due("place by place", x.judge(v, straight), 1);
    e.due("at the other place", x.judge(v, crossed), 1);
    e.due("another HEAD", x.judge(v, other), 2);
    e.due("both of one with one PART", x.judge(v, both), 2);
    x.say(0, 1);
    e.due("all PARTS are ONE", x.judge(v, both), 1);
  }

  private static void rowsTellOfTheirParts() {
    e.about("Terms: 'if two ROWS are ONE, their FIRSTS are, and their RESTS'");
    EqualCourt x = Scenes.withNames(5);
    int r = x.row(0, 1), q = x.row(2, 3);
    x.say(r, 4);
    e.due("not yet", x.judge(0, 2), 2);
    x.say(4, q);
    e.due("FIRSTS", x.judge(0, 2), 1);
    e.due("RESTS", x.judge(1, 3), 1);
    e.due("no FIRST with a REST", x.judge(0, 3), 2);
    x.drop(1);
    e.due("FIRSTS no more", x.judge(0, 2), 2);
    // A CLASS that has a ROW by another, or by the other of two, tells no less.
    EqualCourt z = Scenes.withNames(7);
    int p = z.row(0, 1), s = z.row(2, 3);
    z.say(5, 4);
    z.say(6, 5);
    z.say(4, p);
    z.say(4, s);
    e.due("a ROW that came into a larger CLASS", z.judge(0, 2), 1);
    e.due("a ROW that came into a larger CLASS", z.judge(1, 3), 1);
    // A ROW that is ONE with its own REST: all that is built on it goes down.
    EqualCourt y = Scenes.withNames(2);
    int inner = y.row(0, 1), outer = y.row(0, inner);
    y.say(outer, inner);
    e.due("the REST of both", y.judge(inner, 1), 1);
    e.due("the FIRST stays apart", y.judge(0, 1), 2);
  }

  /** ROWS of n TERMS: the NAMES from the given one on, in RESTS of RESTS, and at the end a NAME of its own. */
  private static int longRow(EqualCourt x, int from, int n, boolean atRests) {
    int row = from + n;
    for (int i = n - 1; i >= 0; i--) row = atRests ? x.row(from + i, row) : x.row(row, from + i);
    return row;
  }

  private static void longRowsTellOfAllTheirParts() {
    e.about("Terms: 'if two ROWS are ONE, their FIRSTS are, and their RESTS': ROWS in ROWS");
    for (boolean atRests : new boolean[] {true, false}) {
      EqualCourt x = Scenes.withNames(60);
      int left = longRow(x, 0, 29, atRests), right = longRow(x, 30, 29, atRests);
      e.due("TERMS", x.many(0), 118);
      x.say(left, right);
      for (int i = 0; i < 30; i++) e.due("NAME " + i + " and its mate", x.judge(i, i + 30), 1);
      e.due("no FIRST with another", x.judge(0, 31), 2);
      e.due("half of them are CLASSES", x.many(6), 59);
      e.due("by one SAYING", x.why(29, 59), 1);
      x.drop(0);
      e.due("none is without it", x.many(6), 118);
      x.unlike(29, 59);
      e.due("the last of all is unlike", x.judge(left, right), 0);
    }
    // ROWS at both places: all eight leaves of two trees.
    EqualCourt y = Scenes.withNames(16);
    int[] level = new int[16];
    for (int i = 0; i < 16; i++) level[i] = i;
    for (int n = 8; n >= 2; n /= 2) {
      for (int i = 0; i < n; i++) level[i] = y.row(level[2 * i], level[2 * i + 1]);
    }
    y.say(level[1], level[0]);
    for (int i = 0; i < 8; i++) e.due("leaf " + i, y.judge(i, i + 8), 1);
    e.due("and no more", y.many(6), 15);
  }

  private static void upAndDownAgain() {
    e.about("Terms: what follows from what follows");
    EqualCourt x = Scenes.withNames(8);
    int f0 = x.built(0, 1, 0, 0, 0), f1 = x.built(0, 1, 1, 0, 0), r = x.row(2, 3), q = x.row(4, 5);
    int v = x.even(0, 2, 6), w = x.even(0, 6, 4), g = x.built(1, 2, v, 3, 0), k = x.built(1, 2, w, 5, 0);
    int p = x.row(g, 7), t = x.row(k, 0);
    x.say(f0, r);
    x.say(f1, q);
    x.say(p, t);
    e.due("0 is 7 by RESTS, and no more", x.judge(0, 7), 1);
    e.due("g is k by FIRSTS", x.judge(g, k), 1);
    e.due("but not what they are built of", x.judge(v, w), 2);
    x.drop(2);
    e.due("not yet", x.judge(p, t), 2);
    x.say(0, 1);
    e.due("f(0) is f(1)", x.judge(f0, f1), 1);
    e.due("so the ROWS are", x.judge(r, q), 1);
    e.due("so their FIRSTS are", x.judge(2, 4), 1);
    e.due("so the EVEN ones are", x.judge(v, w), 1);
    e.due("so what is built of these and the RESTS is", x.judge(g, k), 1);
    e.due("but no ROW whose REST is another", x.judge(p, t), 2);
    x.say(7, 1);
    e.due("until it is that one too", x.judge(p, t), 1);
    e.due("by all but the one that is GONE", x.why(p, t), 4);
  }

  private static void aTermThatComesLater() {
    e.about("Terms: 'CLASSES are all TERMS that are ONE with one another': one that comes behind the SAYINGS");
    EqualCourt x = Scenes.withNames(4);
    int f = x.built(0, 2, 0, 2, 0), r = x.row(0, 2), v = x.even(0, 0, 2);
    x.say(0, 1);
    x.say(3, 2);
    e.due("a BUILT one", x.head(x.built(0, 2, 1, 3, 0)), f);
    e.due("a ROW", x.head(x.row(1, 3)), r);
    e.due("an EVEN one", x.head(x.even(0, 1, 3)), v);
    e.due("an EVEN one, crossed", x.head(x.even(0, 3, 1)), v);
    e.due("many(6)", x.many(6), 5);
  }

  /** All that can be built of so few TERMS that 120 hold it. */
  private static void whatIsBuiltOfTheSameParts() {
    e.about("Terms: 'ONE .. by no more than this': all HEADS and KINDS over the same PARTS");
    EqualCourt x = Scenes.withNames(1);
    for (int head = 0; head < 20; head++) {
      for (int n = 1; n <= 3; n++) x.built(head, n, 0, 0, 0);
      x.even(head, 0, 0);
    }
    x.row(0, 0);
    e.due("TERMS", x.many(0), 82);
    e.due("CLASSES", x.many(6), 82);
    EqualCourt y = Scenes.withNames(14);
    for (int a = 0; a < 14; a++) {
      for (int b = a + 1; b < 14; b++) y.even(0, a, b);
    }
    e.due("EVEN ones that share a PART", y.many(6), 14 + 91);
  }

  /** Of k CLASSES of NAMES, k * k CLASSES of BUILT ones or ROWS are made, and fewer EVEN ones. */
  private static void whatIsBuiltOfTenNames() {
    e.about("Terms: 'if their PARTS are, each with the other's at its place': 110 TERMS");
    int[][] says = {{0, 1}, {3, 2}, {5, 9}, {9, 8}, {1, 3}, {4, 6}, {6, 8}, {7, 0}, {2, 5}};
    for (int kind = 2; kind <= 4; kind++) {
      EqualCourt x = Scenes.withNames(10);
      for (int a = 0; a < 10; a++) {
        for (int b = 0; b < 10; b++) {
          if (kind == 2) x.built(0, 2, a, b, 0);
          else if (kind == 3) x.row(a, b);
          else x.even(0, a, b);
        }
      }
      e.due("by no SAYING", x.many(6), classes(kind, 10));
      for (int k = 0; k < says.length; k++) {
        x.say(says[k][0], says[k][1]);
        e.due("KIND " + kind + ", by SAYINGS 0 to " + k, x.many(6), classes(kind, 9 - k));
      }
      for (int t = 11; t < 110; t += 7) e.due("all are ONE", x.head(t), 10);
      for (int k = 0; k < says.length; k++) {
        x.drop((k * 4) % 9);
        e.due("KIND " + kind + ", without " + (k + 1) + " of them", x.many(6), classes(kind, k + 2));
      }
    }
  }

  private static int classes(int kind, int names) {
    return names + (kind == 4 ? names * (names + 1) / 2 : names * names);
  }

  private static void numbersThatAreUnlikeClash() {
    e.about("Terms: 'The set CLASHES if by it two NUMBERS that are unlike are ONE'");
    EqualCourt x = new EqualCourt();
    int min = x.number(MIN), max = x.number(MAX), zero = x.number(0), minus = x.number(-1), a = x.name(0);
    e.refused(x, "MIN and MAX", x.say(min, max), CLASH);
    e.refused(x, "0 and -1", x.say(zero, minus), CLASH);
    e.fine(x, "a NUMBER and itself", x.say(min, min), 0);
    e.fine(x, "a NUMBER and a NAME", x.say(min, a), 1);
    e.refused(x, "the same NAME and another NUMBER", x.say(a, max), CLASH);
    e.fine(x, "a NAME of the same number is no NUMBER", x.say(a, x.name(1)), 2);
    // By PARTS: the two BUILT ones are two NUMBERS.
    int f = x.built(0, 1, x.name(2), 0, 0), g = x.built(0, 1, x.name(3), 0, 0);
    x.say(f, zero);
    x.say(g, minus);
    e.refused(x, "by PARTS", x.say(x.name(2), x.name(3)), CLASH);
    e.refused(x, "by FIRSTS", x.say(x.row(zero, a), x.row(minus, a)), CLASH);
    e.refused(x, "by RESTS", x.say(x.row(a, zero), x.row(a, minus)), CLASH);
  }

  private static void unlikeSayingsClash() {
    e.about("Terms: '.. or the two of one of its UNLIKE SAYINGS are'");
    EqualCourt x = Scenes.withNames(4);
    e.refused(x, "unlike itself", x.unlike(0, 0), CLASH);
    e.fine(x, "unlike(0, 1)", x.unlike(0, 1), 0);
    e.fine(x, "unlike(0, 1) again", x.unlike(0, 1), 1);
    e.fine(x, "unlike(1, 0)", x.unlike(1, 0), 2);
    e.refused(x, "say(0, 1)", x.say(0, 1), CLASH);
    e.refused(x, "say(1, 0)", x.say(1, 0), CLASH);
    e.fine(x, "say(0, 2)", x.say(0, 2), 3);
    e.refused(x, "say(2, 1)", x.say(2, 1), CLASH);
    x.drop(0);
    x.drop(2);
    e.refused(x, "one is left", x.say(2, 1), CLASH);
    x.drop(1);
    e.fine(x, "none is left", x.say(2, 1), 4);
    e.refused(x, "now the other way", x.unlike(0, 1), CLASH);
  }

  private static void sayingsOfNoTerm() {
    e.about("promises 11, 12: 'BEYOND: one is no TERM'");
    EqualCourt x = Scenes.withNames(2);
    for (int wrong : new int[] {-1, 2, 119, 120, MIN, MAX}) {
      e.refused(x, "say(" + wrong + ", 0)", x.say(wrong, 0), BEYOND);
      e.refused(x, "say(0, " + wrong + ")", x.say(0, wrong), BEYOND);
      e.refused(x, "say twice " + wrong, x.say(wrong, wrong), BEYOND);
      e.refused(x, "unlike(" + wrong + ", 0)", x.unlike(wrong, 0), BEYOND);
      e.refused(x, "unlike(0, " + wrong + ")", x.unlike(0, wrong), BEYOND);
      e.refused(x, "unlike twice " + wrong, x.unlike(wrong, wrong), BEYOND);
    }
    e.fine(x, "the last TERM", x.say(1, 1), 0);
    EqualCourt full = Scenes.withTerms(120);
    e.refused(full, "say(0, 120)", full.say(0, 120), BEYOND);
    e.fine(full, "say(0, 119)", full.say(0, 119), 0);
    e.fine(full, "unlike(1, 119)", full.unlike(1, 119), 1);
  }

  private static void aHundredSayings() {
    e.about("promise 11: 'FULL: there are 100'");
    EqualCourt x = Scenes.withTerms(93);
    for (int s = 0; s < 99; s++) e.due("saying " + s, s % 2 == 0 ? x.say(0, 1) : x.unlike(0, 2), s);
    e.fine(x, "the 100th", x.say(3, 3), 99);
    e.refused(x, "the 101st", x.say(3, 3), FULL);
    e.refused(x, "the 101st, by unlike()", x.unlike(0, 4), FULL);
    e.refused(x, "FULL ahead of CLASH, UNLIKE", x.say(1, 2), FULL);
    e.refused(x, "FULL ahead of CLASH, NUMBERS", x.say(90, 91), FULL);
    e.due("nothing CLASHED", x.clashed(0), NONE);
    e.refused(x, "BEYOND ahead of FULL", x.say(0, 93), BEYOND);
    e.refused(x, "BEYOND ahead of FULL", x.say(-1, 0), BEYOND);
    e.due("many(1)", x.many(1), 100);
    e.fine(x, "drop(99)", x.drop(99), 99);
    e.refused(x, "a SAYING that is GONE is there still", x.say(3, 3), FULL);
    e.due("said(99, 1)", x.said(99, 1), 3);
    e.due("said(100, 1)", x.said(100, 1), NONE);
  }

  private static void aHundredUnlikeSayings() {
    e.about("promise 12: 'FULL .. likewise'");
    EqualCourt x = Scenes.withNames(3);
    x.say(0, 1);
    for (int s = 1; s < 100; s++) e.fine(x, "unlike " + s, x.unlike(0, 2), s);
    e.refused(x, "the 101st", x.unlike(0, 2), FULL);
    e.refused(x, "FULL ahead of CLASH", x.unlike(0, 1), FULL);
    e.refused(x, "FULL ahead of CLASH", x.unlike(2, 2), FULL);
    e.refused(x, "BEYOND ahead of FULL", x.unlike(2, 3), BEYOND);
    e.refused(x, "BEYOND ahead of FULL", x.unlike(-1, 2), BEYOND);
    e.due("the 100th is TAKEN", x.said(99, 3), 1);
  }

  private static void aSayingThatIsRefusedDoesNotCome() {
    e.about("promises 11, 12: 'CLASH: with it COURT would CLASH'");
    EqualCourt x = Scenes.withNames(4);
    x.say(0, 1);
    x.unlike(1, 2);
    e.refused(x, "say(0, 2)", x.say(0, 2), CLASH);
    e.refused(x, "unlike(0, 1)", x.unlike(0, 1), CLASH);
    e.due("many(1)", x.many(1), 2);
    e.due("many(2)", x.many(2), 2);
    e.due("judge(0, 2)", x.judge(0, 2), 0);
    e.due("judge(0, 1)", x.judge(0, 1), 1);
    e.due("many(6)", x.many(6), 3);
    e.fine(x, "the next one has the next number", x.say(2, 3), 2);
  }

  private static void dropOfNoSaying() {
    e.about("promise 13: 'BEYOND: there is none such'");
    EqualCourt x = Scenes.withNames(1);
    for (int s : new int[] {-1, 0, 1, 99, 100, MIN, MAX}) e.refused(x, "drop(" + s + ")", x.drop(s), BEYOND);
    x.say(0, 0);
    e.refused(x, "drop(1)", x.drop(1), BEYOND);
    e.fine(x, "drop(0)", x.drop(0), 0);
    EqualCourt full = Scenes.chain(101);
    e.refused(full, "drop(100)", full.drop(100), BEYOND);
    e.fine(full, "drop(99)", full.drop(99), 99);
    e.fine(full, "drop(0)", full.drop(0), 98);
  }

  private static void dropOfWhatIsGone() {
    e.about("promise 13: 'GONE: it is already'");
    EqualCourt x = Scenes.withNames(3);
    x.say(0, 1);
    x.unlike(0, 2);
    e.fine(x, "drop(0)", x.drop(0), 1);
    e.refused(x, "drop(0) again", x.drop(0), GONE);
    e.fine(x, "drop(1)", x.drop(1), 0);
    e.refused(x, "drop(1) again", x.drop(1), GONE);
    e.due("many(2)", x.many(2), 0);
    x.push();
    x.say(1, 2);
    x.pop();
    e.refused(x, "GONE by pop()", x.drop(2), GONE);
    x.say(1, 2);
    x.push();
    x.drop(3);
    x.pop();
    e.fine(x, "TAKEN again by pop()", x.drop(3), 0);
  }

  private static void whatASayingSays() {
    e.about("promise 14: 'what = 0 1 if it is SAME, 0 if UNLIKE; 1, 2 its TERMS; 3 1 if it is TAKEN, else 0'");
    EqualCourt x = Scenes.withTerms(120);
    x.say(119, 0);
    x.unlike(1, 118);
    x.say(5, 5);
    x.drop(0);
    int[][] want = {{1, 119, 0, 0}, {0, 1, 118, 1}, {1, 5, 5, 1}};
    for (int s = 0; s < 3; s++) {
      for (int what = 0; what < 4; what++) e.due("said(" + s + ", " + what + ")", x.said(s, what), want[s][what]);
    }
  }

  private static void whatIsNotSaid() {
    e.about("promise 14: 'NONE: there is none such, another what'");
    EqualCourt x = Scenes.chain(101);
    for (int what : new int[] {-1, 4, 5, MIN, MAX}) {
      e.due("said(0, " + what + ")", x.said(0, what), NONE);
      e.due("said(99, " + what + ")", x.said(99, what), NONE);
    }
    for (int s : new int[] {-1, 100, MIN, MAX}) {
      for (int what = 0; what < 4; what++) e.due("said(" + s + ", " + what + ")", x.said(s, what), NONE);
    }
    e.due("said(99, 2)", x.said(99, 2), 100);
    EqualCourt one = Scenes.withNames(1);
    one.say(0, 0);
    e.due("said(0, 3)", one.said(0, 3), 1);
    e.due("said(1, 3)", one.said(1, 3), NONE);
  }

  private static void tells(EqualCourt x, String text, int... want) {
    for (int i = 0; i < want.length; i++) e.due(text + ": clashed(" + i + ")", x.clashed(i), want[i]);
    for (int i : new int[] {-1, want.length, want.length + 1, 99, 100, MIN, MAX}) {
      if (i < 0 || i >= want.length) e.due(text + ": clashed(" + i + ")", x.clashed(i), NONE);
    }
  }

  private static void clashesThatNeedNoSaying() {
    e.about("promise 15: an empty CORE");
    EqualCourt x = Scenes.withNames(3);
    x.say(0, 1);
    x.unlike(0, 1);
    tells(x, "one there", 0);
    int five = x.number(5), six = x.number(6);
    x.say(five, six);
    tells(x, "two NUMBERS", new int[0]);
    x.unlike(0, 1);
    tells(x, "one there again", 0);
    x.unlike(2, 2);
    tells(x, "unlike itself", new int[0]);
    x.unlike(0, 1);
    x.unlike(x.even(0, 0, 2), x.even(0, 2, 0));
    tells(x, "an EVEN one unlike itself turned", new int[0]);
  }

  private static void clashesThatNeedAllSayings() {
    e.about("promise 15: a CORE of 99");
    EqualCourt x = Scenes.chain(100);
    e.refused(x, "unlike(0, 99)", x.unlike(0, 99), CLASH);
    for (int i = 0; i < 99; i++) e.due("clashed(" + i + ")", x.clashed(i), i);
    e.due("clashed(99)", x.clashed(99), NONE);
    e.due("clashed(100)", x.clashed(100), NONE);
    e.due("clashed(-1)", x.clashed(-1), NONE);
    EqualCourt y = Scenes.chain(99);
    int last = y.number(MAX);
    y.unlike(98, last);
    e.refused(y, "say(last, 0)", y.say(last, 0), CLASH);
    for (int i = 0; i < 99; i++) e.due("clashed(" + i + ") of say()", y.clashed(i), i);
    e.due("clashed(99) of say()", y.clashed(99), NONE);
  }

  private static void clashesOfNumbers() {
    e.about("promise 15: a CORE by which two NUMBERS would be ONE");
    EqualCourt x = Scenes.withNames(4);
    int five = x.number(5), six = x.number(6);
    x.say(2, 3);
    x.say(0, five);
    x.say(2, 0);
    x.say(1, six);
    e.refused(x, "say(2, 1)", x.say(2, 1), CLASH);
    tells(x, "both NUMBERS", 1, 2, 3);
    e.refused(x, "say(0, six)", x.say(0, six), CLASH);
    tells(x, "one of them is said", 1);
    x.drop(1);
    x.say(x.built(0, 1, 0, 0, 0), five);
    int f = x.built(0, 1, 3, 0, 0);
    e.refused(x, "say(f(3), six)", x.say(f, six), CLASH);
    tells(x, "3 is 2 is 0", 0, 2, 4);
    x.drop(0);
    x.say(f, six);
    e.refused(x, "say(0, 3)", x.say(0, 3), CLASH);
    tells(x, "what is built of them", 4, 5);
  }

  private static void nothingIsLeftOfAClash() {
    e.about("promise 11: what a SAYING that CLASHES would have made ONE stays apart");
    EqualCourt x = Scenes.withNames(6);
    int five = x.number(5), six = x.number(6);
    int r = x.row(0, five), q = x.row(1, six), p = x.row(five, 2), s = x.row(six, 3);
    int f0 = x.built(0, 1, 0, 0, 0), f1 = x.built(0, 1, 1, 0, 0), f4 = x.built(0, 1, 4, 0, 0);
    e.refused(x, "by RESTS", x.say(r, q), CLASH);
    e.due("their FIRSTS", x.judge(0, 1), 2);
    e.refused(x, "by FIRSTS", x.say(p, s), CLASH);
    e.due("their RESTS", x.judge(2, 3), 2);
    e.due("CLASSES", x.many(6), x.many(0));
    x.say(0, 4);
    e.due("what is built of them is judged as ever", x.judge(f0, f4), 1);
    e.due("what is built of them is judged as ever", x.judge(f0, f1), 2);
    x.say(f0, five);
    x.say(f1, six);
    e.refused(x, "by what is built of them", x.say(4, 1), CLASH);
    x.drop(2);
    x.say(1, 4);
    e.due("f(1) is f(0) now", x.judge(f1, five), 1);
    e.due("and the ROW stays apart", x.judge(r, q), 0);
  }

  private static void nothingIsLeftForLater() {
    e.about("promise 11: what a SAYING that CLASHES would have made ONE stays apart in what comes later");
    EqualCourt x = Scenes.withNames(4);
    int five = x.number(5), six = x.number(6);
    int r = x.row(0, five), q = x.row(1, six), p = x.row(five, 2), s = x.row(six, 3);
    int[][] pairs = {{r, q}, {p, s}};
    for (int[] ab : pairs) {
      x.push();
      e.refused(x, "two ROWS", x.say(ab[0], ab[1]), CLASH);
      x.row(x.name(9), ab[0]);
      e.due("a TERM that comes behind it", x.many(6), x.many(0));
      e.refused(x, "two ROWS again", x.say(ab[0], ab[1]), CLASH);
      x.pop();
      e.due("a level that ends behind it", x.many(6), x.many(0));
      e.refused(x, "two ROWS once more", x.say(ab[0], ab[1]), CLASH);
      x.built(7, 1, ab[1], 0, 0);
      x.drop(x.say(ab[0], ab[0]));
      e.due("a SAYING that is GONE behind it", x.many(6), x.many(0));
    }
    e.due("judge(0, 1)", x.judge(0, 1), 2);
    e.due("judge(2, 3)", x.judge(2, 3), 2);
    // What is built of two TERMS, ahead of and behind what makes them CLASH.
    EqualCourt y = Scenes.withNames(2);
    int[] of0 = new int[5], of1 = new int[5];
    for (int head = 0; head < 5; head++) {
      of0[head] = y.built(head, 1, 0, 0, 0);
      of1[head] = y.built(head, 1, 1, 0, 0);
    }
    y.say(of0[2], y.number(5));
    int last = y.say(of1[2], y.number(6));
    e.refused(y, "say(0, 1)", y.say(0, 1), CLASH);
    e.refused(y, "say(1, 0)", y.say(1, 0), CLASH);
    y.drop(last);
    y.say(0, 1);
    for (int head = 0; head < 5; head++) e.due("HEAD " + head, y.judge(of0[head], of1[head]), 1);
  }

  private static void manyAreBuiltOfOne() {
    e.about("Terms: 'if their PARTS are': 120 TERMS, of two of which all others are built");
    for (int turn = 0; turn < 2; turn++) {
      EqualCourt x = Scenes.withNames(2);
      for (int head = 0; head < 20; head++) {
        for (int a = 0; a < 2; a++) {
          x.built(head, 3, a, a, a);
          x.built(head, 2, a, a, 0);
          x.even(head, a, a);
        }
      }
      // Of NAME 0 there are 60, of NAME 1 there is room for 58.
      e.due("TERMS", x.many(0), 120);
      x.say(turn, 1 - turn);
      e.due("CLASSES", x.many(6), 1 + 60);
    }
  }

  private static void thinnedFromTheFirstOn() {
    e.about("Terms: 'TO THIN': 'from the first on each is left out for good'");
    EqualCourt x = Scenes.withNames(4);
    x.say(0, 3);
    x.say(0, 1);
    x.say(1, 2);
    x.say(2, 3);
    x.unlike(0, 3);
    tells(x, "the first is left out, though it alone is enough", 1, 2, 3);
    x.drop(2);
    x.unlike(0, 3);
    tells(x, "it alone is enough", 0);
    // SAYINGS that are GONE are not COURT's; UNLIKE ones are.
    EqualCourt y = Scenes.withNames(3);
    y.unlike(0, 1);
    y.unlike(0, 1);
    y.unlike(1, 0);
    y.say(0, 1);
    tells(y, "the last of three", 2);
    y.drop(2);
    y.say(0, 1);
    tells(y, "the last of two", 1);
    y.say(0, 2);
    y.say(1, 2);
    tells(y, "the refused one is not told", 1, 3);
  }

  private static void clashedOfTheLatestThatClashed() {
    e.about("promise 15: 'of the latest say(), unlike() or follow() that was refused as CLASH, or ended so'");
    EqualCourt x = Scenes.withNames(3);
    x.say(0, 1);
    x.say(1, 2);
    x.unlike(0, 2);
    tells(x, "told", 0, 1);
    x.say(0, 2);
    tells(x, "a say() that is done", 0, 1);
    x.say(0, 9);
    tells(x, "a say() that is BEYOND", 0, 1);
    x.unlike(0, x.name(5));
    tells(x, "an unlike() that is done", 0, 1);
    x.drop(2);
    x.drop(0);
    x.push();
    x.pop();
    tells(x, "drop(), push(), pop()", 0, 1);
    x.why(1, 2);
    x.least(1, 2, 10);
    x.judge(0, 3);
    tells(x, "why(), least(), judge()", 0, 1);
    x.law(0, 1);
    x.follow(0, 9);
    e.due("ended()", x.ended(), 0);
    tells(x, "a follow() that ended otherwise", 0, 1);
    x.follow(1, 9);
    tells(x, "a follow() that is BEYOND", 0, 1);
    x.law(1, 3);
    x.follow(1, 9);
    e.due("ended()", x.ended(), 4);
    tells(x, "a follow() that ended so", 3, 4);
    for (int s = x.many(1); s < 100; s++) x.say(0, 0);
    x.unlike(1, 1);
    tells(x, "an unlike() that is FULL", 3, 4);
  }

  public static void main(String[] args) {
    oneWithItself();
    oneEitherWay();
    oneByAnother();
    builtOnesByTheirParts();
    builtOnesSayNothingOfTheirParts();
    rowsByTheirParts();
    evenOnesByTheirParts();
    rowsTellOfTheirParts();
    longRowsTellOfAllTheirParts();
    upAndDownAgain();
    aTermThatComesLater();
    whatIsBuiltOfTheSameParts();
    whatIsBuiltOfTenNames();
    manyAreBuiltOfOne();
    numbersThatAreUnlikeClash();
    unlikeSayingsClash();
    sayingsOfNoTerm();
    aHundredSayings();
    aHundredUnlikeSayings();
    aSayingThatIsRefusedDoesNotCome();
    dropOfNoSaying();
    dropOfWhatIsGone();
    whatASayingSays();
    whatIsNotSaid();
    clashesThatNeedNoSaying();
    clashesThatNeedAllSayings();
    clashesOfNumbers();
    nothingIsLeftOfAClash();
    nothingIsLeftForLater();
    thinnedFromTheFirstOn();
    clashedOfTheLatestThatClashed();
    e.end();
  }
}
