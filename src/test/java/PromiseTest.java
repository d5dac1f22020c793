/** At least one test for each promise of the document: ordinary inputs, its edges, and wrong inputs. */
public final class PromiseTest {
  private static final int BEYOND = 1, KIND = 2, FULL = 3, CLASH = 4, GONE = 5, OPEN = 6, SPENT = 7, NEGATIVE = 8,
      MISSING = 9;
  private static final int MIN = Integer.MIN_VALUE, MAX = Integer.MAX_VALUE;
  private static final int NONE = EqualCourt.NONE;
  private static final Expect e = new Expect();

  private static void tellsClashed(EqualCourt x, int... want) {
    for (int i = 0; i < want.length; i++) e.due("clashed(" + i + ")", x.clashed(i), want[i]);
    e.due("clashed(-1)", x.clashed(-1), NONE);
    e.due("clashed(" + want.length + ")", x.clashed(want.length), NONE);
  }

  private static void tellsBecause(EqualCourt x, int... want) {
    for (int i = 0; i < want.length; i++) e.due("because(" + i + ")", x.because(i), want[i]);
    e.due("because(-1)", x.because(-1), NONE);
    e.due("because(" + want.length + ")", x.because(want.length), NONE);
  }

  private static void newObject() {
    EqualCourt x = new EqualCourt();
    for (int what = 0; what <= 6; what++) e.due("many(" + what + ")", x.many(what), 0);
    e.due("status()", x.status(), 0);
    e.due("ended()", x.ended(), NONE);
    e.due("check(0, 0)", x.check(0, 0), 0);
    e.due("kind(0)", x.kind(0), NONE);
    e.due("head(0)", x.head(0), NONE);
    e.due("judge(0, 0)", x.judge(0, 0), NONE);
    e.due("said(0, 0)", x.said(0, 0), NONE);
    e.due("member(0, 0)", x.member(0, 0), NONE);
    e.due("uses(0, 0)", x.uses(0, 0), NONE);
    tellsClashed(x);
    tellsBecause(x);
  }

  private static void names() {
    EqualCourt x = new EqualCourt();
    e.fine(x, "name(99)", x.name(99), 0);
    e.fine(x, "name(0)", x.name(0), 1);
    e.fine(x, "name(99) again", x.name(99), 0);
    e.due("many(0)", x.many(0), 2);
    for (int wrong : new int[] {-1, 100, MIN, MAX}) e.refused(x, "name(" + wrong + ")", x.name(wrong), BEYOND);
    x = Scenes.withTerms(120);
    e.refused(x, "name(90) when full", x.name(90), FULL);
    e.refused(x, "name(100) when full", x.name(100), BEYOND);
    e.fine(x, "name(89) when full", x.name(89), 89);
    e.due("many(0)", x.many(0), 120);
  }

  private static void numbers() {
    EqualCourt x = Scenes.withNames(1);
    int[] all = {0, -1, 1, MIN, MAX, 90};
    for (int i = 0; i < all.length; i++) e.fine(x, "number(" + all[i] + ")", x.number(all[i]), i + 1);
    for (int i = 0; i < all.length; i++) e.fine(x, "number again", x.number(all[i]), i + 1);
    e.due("kind", x.kind(1), 1);
    x = Scenes.withTerms(120);
    e.refused(x, "number(0) when full", x.number(0), FULL);
    e.fine(x, "number(1029) when full", x.number(1029), 119);
  }

  private static void builtOnes() {
    EqualCourt x = Scenes.withNames(3);
    e.fine(x, "built one PART", x.built(0, 1, 0, -5, MAX), 3);
    e.fine(x, "built the same, other unused", x.built(0, 1, 0, 1, 2), 3);
    e.fine(x, "built two PARTS", x.built(0, 2, 0, 1, 77), 4);
    e.fine(x, "built three PARTS", x.built(0, 3, 0, 1, 2), 5);
    e.fine(x, "built HEAD 19", x.built(19, 3, 0, 1, 2), 6);
    e.fine(x, "built again", x.built(0, 3, 0, 1, 2), 5);
    e.fine(x, "built turned", x.built(0, 2, 1, 0, 0), 7);
    e.refused(x, "HEAD -1", x.built(-1, -1, 0, 0, 0), BEYOND);
    e.refused(x, "HEAD 20", x.built(20, 1, 0, 0, 0), BEYOND);
    e.refused(x, "n -1", x.built(0, -1, 99, 0, 0), NEGATIVE);
    e.refused(x, "n MIN", x.built(0, MIN, 0, 0, 0), NEGATIVE);
    e.refused(x, "n 0", x.built(0, 0, 0, 0, 0), BEYOND);
    e.refused(x, "n 4", x.built(0, 4, 0, 0, 0), BEYOND);
    e.refused(x, "n MAX", x.built(0, MAX, 0, 0, 0), BEYOND);
    e.refused(x, "PART 0 wrong", x.built(0, 1, 8, 0, 0), BEYOND);
    e.refused(x, "PART 1 wrong", x.built(0, 2, 0, -1, 0), BEYOND);
    e.refused(x, "PART 2 wrong", x.built(0, 3, 0, 0, MAX), BEYOND);
    e.due("many(0)", x.many(0), 8);
    x = Scenes.withNames(90);
    for (int i = 0; i < 30; i++) x.built(0, 1, i, 0, 0);
    e.refused(x, "full", x.built(0, 1, 30, 0, 0), FULL);
    e.refused(x, "full and BEYOND", x.built(0, 1, 120, 0, 0), BEYOND);
    e.fine(x, "full, there", x.built(0, 1, 29, 0, 0), 119);
  }

  private static void rows() {
    EqualCourt x = Scenes.withNames(2);
    e.fine(x, "row(0, 1)", x.row(0, 1), 2);
    e.fine(x, "row(1, 0)", x.row(1, 0), 3);
    e.fine(x, "row(0, 1) again", x.row(0, 1), 2);
    e.fine(x, "row(2, 2)", x.row(2, 2), 4);
    e.refused(x, "row(5, 0)", x.row(5, 0), BEYOND);
    e.refused(x, "row(0, -1)", x.row(0, -1), BEYOND);
    x = Scenes.withTerms(120);
    e.refused(x, "full", x.row(0, 0), FULL);
    e.refused(x, "full and BEYOND", x.row(120, 0), BEYOND);
  }

  private static void evenOnes() {
    EqualCourt x = Scenes.withNames(2);
    e.fine(x, "even(0, 0, 1)", x.even(0, 0, 1), 2);
    e.fine(x, "built with the same HEAD", x.built(0, 2, 0, 1, 0), 3);
    e.fine(x, "even turned is another TERM", x.even(0, 1, 0), 4);
    e.fine(x, "even(19, 1, 0)", x.even(19, 1, 0), 5);
    e.fine(x, "even again", x.even(0, 0, 1), 2);
    e.due("judge(2, 4)", x.judge(2, 4), 1);
    e.due("judge(2, 3)", x.judge(2, 3), 2);
    e.due("judge(4, 5)", x.judge(4, 5), 2);
    e.refused(x, "HEAD 20", x.even(20, 0, 0), BEYOND);
    e.refused(x, "HEAD -1", x.even(-1, 0, 0), BEYOND);
    e.refused(x, "a wrong", x.even(0, 6, 0), BEYOND);
    e.refused(x, "b wrong", x.even(0, 0, -1), BEYOND);
    x = Scenes.withTerms(120);
    e.refused(x, "full", x.even(0, 0, 0), FULL);
    e.refused(x, "full and BEYOND", x.even(0, 0, 120), BEYOND);
  }

  /** TERMS 0 to 7: NAMES 7, 90, NUMBER -3, BUILT with 1, 2, 3 PARTS and HEADS 4, 5, 6, ROW, EVEN with HEAD 8. */
  private static EqualCourt zoo() {
    EqualCourt x = new EqualCourt();
    x.name(7);
    x.name(90);
    x.number(-3);
    x.built(4, 1, 0, 0, 0);
    x.built(5, 2, 1, 0, 0);
    x.built(6, 3, 2, 1, 0);
    x.row(3, 4);
    x.even(8, 5, 6);
    return x;
  }

  private static void kinds() {
    EqualCourt x = zoo();
    x.drop(0);
    int[] want = {0, 0, 1, 2, 2, 2, 3, 4};
    for (int t = 0; t < 8; t++) e.due("kind(" + t + ")", x.kind(t), want[t]);
    for (int t : new int[] {-1, 8, MIN, MAX}) e.due("kind(" + t + ")", x.kind(t), NONE);
    e.due("an ASK leaves status()", x.status(), BEYOND);
  }

  private static void partsOfTerms() {
    EqualCourt x = zoo();
    int[][] want = {{}, {}, {}, {0}, {1, 0}, {2, 1, 0}, {3, 4}, {5, 6}};
    for (int t = 3; t < 8; t++) {
      for (int i = 0; i < want[t].length; i++) e.fine(x, "part(" + t + ", " + i + ")", x.part(t, i), want[t][i]);
      e.refused(x, "part(" + t + ", -1)", x.part(t, -1), BEYOND);
      e.refused(x, "part(" + t + ", size)", x.part(t, want[t].length), BEYOND);
      e.refused(x, "part(" + t + ", MAX)", x.part(t, MAX), BEYOND);
      e.refused(x, "part(" + t + ", MIN)", x.part(t, MIN), BEYOND);
    }
    for (int t = 0; t < 3; t++) e.refused(x, "part(" + t + ", 9)", x.part(t, 9), KIND);
    e.refused(x, "part(8, 0)", x.part(8, 0), BEYOND);
    e.refused(x, "part(-1, 0)", x.part(-1, 0), BEYOND);
  }

  private static void whatTermsShow() {
    EqualCourt x = zoo();
    int[] want = {7, 90, -3, 4, 5, 6, 0, 8};
    for (int t = 0; t < 8; t++) if (t != 6) e.fine(x, "shows(" + t + ")", x.shows(t), want[t]);
    e.refused(x, "shows(6)", x.shows(6), KIND);
    e.refused(x, "shows(8)", x.shows(8), BEYOND);
    e.refused(x, "shows(-1)", x.shows(-1), BEYOND);
    e.fine(x, "shows of NUMBER -1", x.shows(x.number(-1)), -1);
  }

  private static void howMany() {
    EqualCourt x = Scenes.withNames(3);
    x.say(0, 1);
    x.unlike(0, 2);
    x.drop(1);
    x.law(0, 1);
    x.claim(1, 0, 0, 0, 0);
    x.claim(1, 0, 0, 0, 0);
    x.push();
    x.push();
    x.push();
    int[] want = {3, 2, 1, 1, 2, 3, 2};
    for (int what = 0; what < 7; what++) e.due("many(" + what + ")", x.many(what), want[what]);
    for (int what : new int[] {-1, 7, MIN, MAX}) e.due("many(" + what + ")", x.many(what), NONE);
  }

  private static void saying() {
    EqualCourt x = Scenes.withNames(3);
    x.number(5);
    x.number(6);
    e.fine(x, "say(0, 1)", x.say(0, 1), 0);
    e.fine(x, "say(0, 1) again", x.say(0, 1), 1);
    e.fine(x, "say(2, 2)", x.say(2, 2), 2);
    e.refused(x, "say(5, 0)", x.say(5, 0), BEYOND);
    e.refused(x, "say(0, -1)", x.say(0, -1), BEYOND);
    e.refused(x, "say(3, 4)", x.say(3, 4), CLASH);
    tellsClashed(x);
    e.fine(x, "say(0, 3)", x.say(0, 3), 3);
    e.refused(x, "say(1, 4)", x.say(1, 4), CLASH);
    tellsClashed(x, 1, 3);
    e.due("a refused one does not come", x.many(1), 4);
    e.due("judge(1, 4)", x.judge(1, 4), 0);
    for (int s = 4; s < 100; s++) e.due("say", x.say(0, 1), s);
    e.refused(x, "FULL", x.say(0, 1), FULL);
    e.refused(x, "FULL is ahead of CLASH", x.say(3, 4), FULL);
    e.refused(x, "BEYOND is ahead of FULL", x.say(3, 9), BEYOND);
    x.drop(50);
    e.refused(x, "GONE ones count", x.say(0, 1), FULL);
  }

  private static void unlikeness() {
    EqualCourt x = Scenes.withNames(4);
    e.fine(x, "unlike(0, 1)", x.unlike(0, 1), 0);
    e.fine(x, "say(1, 2)", x.say(1, 2), 1);
    e.fine(x, "say(2, 3)", x.say(2, 3), 2);
    e.refused(x, "unlike(3, 1)", x.unlike(3, 1), CLASH);
    tellsClashed(x, 1, 2);
    e.refused(x, "say(3, 0)", x.say(3, 0), CLASH);
    tellsClashed(x, 0, 1, 2);
    e.refused(x, "unlike(0, 0)", x.unlike(0, 0), CLASH);
    tellsClashed(x);
    e.refused(x, "unlike(0, 4)", x.unlike(0, 4), BEYOND);
    e.refused(x, "unlike(-1, 0)", x.unlike(-1, 0), BEYOND);
    for (int s = 3; s < 100; s++) e.due("unlike", x.unlike(0, 1), s);
    e.refused(x, "FULL", x.unlike(0, 0), FULL);
    e.refused(x, "BEYOND is ahead of FULL", x.unlike(4, 0), BEYOND);
  }

  private static void dropping() {
    EqualCourt x = Scenes.withNames(3);
    x.say(0, 1);
    x.say(1, 2);
    x.unlike(0, x.name(9));
    e.fine(x, "drop(0)", x.drop(0), 2);
    e.due("judge(0, 1)", x.judge(0, 1), 2);
    e.due("judge(1, 2)", x.judge(1, 2), 1);
    e.refused(x, "drop(0) again", x.drop(0), GONE);
    e.refused(x, "drop(3)", x.drop(3), BEYOND);
    e.refused(x, "drop(-1)", x.drop(-1), BEYOND);
    e.due("judge(0, 3)", x.judge(0, 3), 0);
    e.fine(x, "drop(2)", x.drop(2), 1);
    e.due("judge(0, 3)", x.judge(0, 3), 2);
    e.fine(x, "drop(1)", x.drop(1), 0);
  }

  private static void whatWasSaid() {
    EqualCourt x = Scenes.withNames(3);
    x.say(2, 0);
    x.unlike(0, 1);
    x.drop(1);
    int[][] want = {{1, 2, 0, 1}, {0, 0, 1, 0}};
    for (int s = 0; s < 2; s++) {
      for (int what = 0; what < 4; what++) e.due("said(" + s + ", " + what + ")", x.said(s, what), want[s][what]);
      e.due("said(" + s + ", -1)", x.said(s, -1), NONE);
      e.due("said(" + s + ", 4)", x.said(s, 4), NONE);
    }
    for (int s : new int[] {-1, 2, MIN, MAX}) e.due("said(" + s + ", 0)", x.said(s, 0), NONE);
  }

  private static void clashedCore() {
    EqualCourt x = Scenes.withNames(4);
    x.say(0, 1);
    x.say(1, 2);
    x.say(0, 2);
    x.say(2, 3);
    e.refused(x, "unlike(0, 2)", x.unlike(0, 2), CLASH);
    tellsClashed(x, 2);
    x.drop(2);
    e.refused(x, "unlike(0, 2)", x.unlike(0, 2), CLASH);
    tellsClashed(x, 0, 1);
    x.drop(0);
    x.drop(1);
    tellsClashed(x, 0, 1);
    x.why(2, 3);
    tellsClashed(x, 0, 1);
    // Of two ways to CLASH the one of the later SAYINGS is left.
    EqualCourt y = Scenes.withNames(4);
    y.unlike(0, 1);
    y.number(0);
    y.number(1);
    y.say(0, 4);
    y.say(1, 5);
    e.refused(y, "say(0, 1)", y.say(0, 1), CLASH);
    tellsClashed(y, 1, 2);
  }

  private static void judging() {
    EqualCourt x = Scenes.withNames(4);
    int f0 = x.built(0, 1, 0, 0, 0), f1 = x.built(0, 1, 1, 0, 0), ff = x.built(0, 2, 0, 0, 0), g1 = x.built(1, 1, 1, 0, 0);
    int r = x.row(0, 2), q = x.row(1, 3), v = x.even(3, f0, f1), w = x.even(3, f1, 1);
    x.say(0, 1);
    e.due("itself", x.judge(2, 2), 1);
    e.due("PARTS", x.judge(f0, f1), 1);
    e.due("not as many PARTS", x.judge(f0, ff), 2);
    e.due("another HEAD", x.judge(f0, g1), 2);
    e.due("ROWS not yet", x.judge(r, q), 2);
    x.say(q, r);
    e.due("RESTS", x.judge(2, 3), 1);
    e.due("EVEN ones not yet", x.judge(v, w), 2);
    x.say(f0, 0);
    e.due("EVEN ones", x.judge(v, w), 1);
    e.due("none", x.judge(0, 99), NONE);
    e.due("none", x.judge(-1, 0), NONE);
    x.unlike(2, f0);
    e.due("clash by what follows", x.judge(3, 0), 0);
    e.due("clash the other way", x.judge(0, 3), 0);
    e.due("an ASK changes nothing", x.many(1), 4);
    // Being ONE goes down through ROWS, but not through BUILT ones.
    EqualCourt y = Scenes.withNames(4);
    y.say(y.built(0, 1, 0, 0, 0), y.built(0, 1, 1, 0, 0));
    e.due("BUILT ones do not go down", y.judge(0, 1), 2);
    y.say(y.row(y.row(0, 1), 2), y.row(y.row(3, 0), 1));
    e.due("ROWS in ROWS", y.judge(0, 3), 1);
    e.due("ROWS in ROWS", y.judge(1, 2), 1);
    e.due("ROWS in ROWS", y.judge(1, 3), 1);
  }

  private static void reasons() {
    EqualCourt x = Scenes.withNames(5);
    x.say(0, 1);
    x.say(1, 2);
    x.unlike(3, 4);
    x.say(0, 2);
    x.say(2, 3);
    e.fine(x, "why(0, 2)", x.why(0, 2), 1);
    tellsBecause(x, 3);
    e.fine(x, "why(1, 3)", x.why(1, 3), 2);
    tellsBecause(x, 1, 4);
    e.fine(x, "why(4, 1)", x.why(4, 1), 3);
    tellsBecause(x, 1, 2, 4);
    e.refused(x, "why(0, 5)", x.why(0, 5), BEYOND);
    e.refused(x, "why(-1, 0)", x.why(-1, 0), BEYOND);
    x.name(50);
    e.refused(x, "why(0, 5)", x.why(0, 5), OPEN);
    tellsBecause(x, 1, 2, 4);
    e.fine(x, "why(0, 0)", x.why(0, 0), 0);
    tellsBecause(x);
    int n = x.number(1), m = x.number(2);
    e.fine(x, "why of two NUMBERS", x.why(n, m), 0);
    // The document's own way to THIN: the first ones go, though they would have been fewer.
    EqualCourt y = Scenes.withNames(4);
    y.say(0, 3);
    y.say(0, 1);
    y.say(1, 2);
    y.say(2, 3);
    e.fine(y, "why(0, 3)", y.why(0, 3), 3);
    tellsBecause(y, 1, 2, 3);
  }

  private static void leastReasons() {
    EqualCourt x = Scenes.withNames(5);
    x.say(0, 1);
    x.say(1, 2);
    x.say(2, 3);
    x.say(0, 3);
    x.unlike(0, 4);
    e.fine(x, "least(0, 3, 500)", x.least(0, 3, 500), 1);
    tellsBecause(x, 3);
    e.fine(x, "least(0, 3, 5)", x.least(0, 3, 5), 1);
    e.refused(x, "least(0, 3, 4)", x.least(0, 3, 4), SPENT);
    e.fine(x, "least(0, 2, 7)", x.least(0, 2, 7), 2);
    tellsBecause(x, 0, 1);
    e.refused(x, "least(0, 2, 6)", x.least(0, 2, 6), SPENT);
    tellsBecause(x, 0, 1);
    // {}, 5 ones, {0,1} {0,2} {0,3}: the 9th.
    e.fine(x, "least(1, 3, 500)", x.least(1, 3, 500), 2);
    tellsBecause(x, 0, 3);
    e.refused(x, "least(1, 3, 8)", x.least(1, 3, 8), SPENT);
    e.fine(x, "least(1, 3, 9)", x.least(1, 3, 9), 2);
    e.fine(x, "least(4, 4, 1)", x.least(4, 4, 1), 0);
    tellsBecause(x);
    e.refused(x, "least(0, 4, 500)", x.least(0, 4, 500), OPEN);
    e.refused(x, "trials 0", x.least(0, 4, 0), BEYOND);
    e.refused(x, "trials 501", x.least(0, 4, 501), BEYOND);
    e.refused(x, "trials MIN", x.least(0, 0, MIN), BEYOND);
    e.refused(x, "a wrong", x.least(5, 0, 1), BEYOND);
    e.refused(x, "b wrong", x.least(0, -1, 1), BEYOND);
    int v = x.even(0, 0, 4), w = x.even(0, 4, 0);
    e.fine(x, "turned EVEN ones need none", x.least(v, w, 1), 0);
    // GONE ones are not tried, UNLIKE ones are.
    EqualCourt y = Scenes.withNames(4);
    y.say(0, 1);
    y.unlike(2, 3);
    y.say(0, 2);
    y.drop(0);
    e.refused(y, "least(0, 2, 2)", y.least(0, 2, 2), SPENT);
    e.fine(y, "least(0, 2, 3)", y.least(0, 2, 3), 1);
    tellsBecause(y, 2);
  }

  private static void leastOfAll() {
    // Eight SAYINGS, all needed: the last of 256 sets.
    EqualCourt x = Scenes.withNames(9);
    for (int i = 0; i < 8; i++) x.say(i, i + 1);
    e.refused(x, "least, 255", x.least(0, 8, 255), SPENT);
    e.fine(x, "least, 256", x.least(0, 8, 256), 8);
    tellsBecause(x, 0, 1, 2, 3, 4, 5, 6, 7);
    // A hundred SAYINGS: the ones end with the 101st set, and {3,6} is the 398th.
    EqualCourt y = Scenes.withNames(5);
    for (int s = 0; s < 100; s++) {
      if (s == 3) y.say(0, 1);
      else if (s == 6) y.say(1, 2);
      else y.say(3, 4);
    }
    int nth = 101 + 99 + 98 + 97 + 3;
    e.refused(y, "least, one short", y.least(0, 2, nth - 1), SPENT);
    e.fine(y, "least", y.least(0, 2, nth), 2);
    tellsBecause(y, 3, 6);
  }

  private static void becauseOfTheLatest() {
    EqualCourt x = Scenes.withNames(3);
    x.say(0, 1);
    x.say(1, 2);
    x.why(0, 2);
    tellsBecause(x, 0, 1);
    x.drop(0);
    tellsBecause(x, 0, 1);
    x.why(0, 1);
    tellsBecause(x, 0, 1);
    x.least(1, 2, 10);
    tellsBecause(x, 1);
  }

  private static void classesTold() {
    EqualCourt x = Scenes.withNames(6);
    x.say(5, 2);
    x.say(2, 4);
    e.due("head(5)", x.head(5), 2);
    e.due("head(4)", x.head(4), 2);
    e.due("head(0)", x.head(0), 0);
    for (int t : new int[] {-1, 6, MIN, MAX}) e.due("head(" + t + ")", x.head(t), NONE);
    int[] want = {2, 4, 5, NONE};
    for (int i = 0; i < 4; i++) e.due("member(4, " + i + ")", x.member(4, i), want[i]);
    e.due("member(4, -1)", x.member(4, -1), NONE);
    e.due("member(4, MIN)", x.member(4, MIN), NONE);
    e.due("member(4, MAX)", x.member(4, MAX), NONE);
    e.due("member(6, 0)", x.member(6, 0), NONE);
    e.due("member(-1, 0)", x.member(-1, 0), NONE);
    e.due("many(6)", x.many(6), 4);
    int f = x.built(0, 2, 0, 5, 0), g = x.row(1, 4), h = x.even(0, 2, 2), k = x.built(0, 1, f, 0, 0);
    int[] uses = {f, g, h, NONE};
    for (int i = 0; i < 4; i++) e.due("uses(2, " + i + ")", x.uses(2, i), uses[i]);
    e.due("uses(f, 0)", x.uses(f, 0), k);
    e.due("uses(k, 0)", x.uses(k, 0), NONE);
    e.due("uses(2, -1)", x.uses(2, -1), NONE);
    e.due("uses(-1, 0)", x.uses(-1, 0), NONE);
    e.due("uses(99, 0)", x.uses(99, 0), NONE);
  }

  private static void theWorld() {
    EqualCourt x = new EqualCourt();
    int one = x.number(1), zero = x.number(0), minus = x.number(-1), four = x.number(4);
    int[] t = new int[6];
    for (int i = 0; i < 6; i++) t[i] = x.name(i);
    x.say(t[1], four);
    x.say(t[5], t[2]);
    e.due("a NUMBER", x.world(one), 1);
    e.due("a NUMBER", x.world(zero), 0);
    e.due("a NUMBER", x.world(minus), -1);
    e.due("one with a NUMBER", x.world(t[1]), 4);
    e.due("the 0th", x.world(t[0]), 2);
    e.due("the 1st", x.world(t[2]), 3);
    e.due("the 1st", x.world(t[5]), 3);
    e.due("the 2nd", x.world(t[3]), 5);
    e.due("the 3rd", x.world(t[4]), 6);
    for (int wrong : new int[] {-1, 10, MIN, MAX}) e.due("world(" + wrong + ")", x.world(wrong), 1099511627776L);
    EqualCourt y = Scenes.withNames(60);
    for (int i = 0; i < 60; i++) y.number(i);
    e.due("all lesser ints are NUMBERS", y.world(59), 119);
  }

  private static void levelsBeginAndEnd() {
    EqualCourt x = Scenes.withNames(4);
    x.say(0, 1);
    x.say(1, 2);
    e.fine(x, "push()", x.push(), 1);
    x.drop(0);
    x.unlike(0, 2);
    e.fine(x, "push()", x.push(), 2);
    x.say(0, 3);
    x.name(50);
    x.law(0, 1);
    x.claim(1, 0, 0, 0, 0);
    e.fine(x, "pop()", x.pop(), 2);
    e.due("said(3, 3)", x.said(3, 3), 0);
    e.due("said(2, 3)", x.said(2, 3), 1);
    e.due("judge(0, 3)", x.judge(0, 3), 2);
    e.fine(x, "pop()", x.pop(), 2);
    e.due("said(0, 3)", x.said(0, 3), 1);
    e.due("said(2, 3)", x.said(2, 3), 0);
    e.due("judge(0, 2)", x.judge(0, 2), 1);
    e.due("SAYINGS stay numbered", x.many(1), 4);
    e.due("TERMS stay", x.many(0), 5);
    e.due("LAWS stay", x.many(3), 1);
    e.due("STEPS stay", x.many(4), 1);
    e.refused(x, "pop()", x.pop(), MISSING);
    for (int i = 1; i <= 10; i++) e.fine(x, "push()", x.push(), i);
    e.refused(x, "push()", x.push(), FULL);
    e.due("many(5)", x.many(5), 10);
    e.due("a new SAYING", x.say(2, 3), 4);
    for (int i = 9; i >= 0; i--) {
      e.fine(x, "pop()", x.pop(), 2);
      e.due("many(5)", x.many(5), i);
    }
  }

  private static void lawsCome() {
    EqualCourt x = Scenes.withNames(2);
    e.refused(x, "law(0, 2)", x.law(0, 2), BEYOND);
    e.refused(x, "law(-1, 0)", x.law(-1, 0), BEYOND);
    for (int i = 0; i < 10; i++) e.fine(x, "law(0, 1)", x.law(0, 1), i);
    e.refused(x, "law(0, 1)", x.law(0, 1), FULL);
    e.refused(x, "law(0, 2)", x.law(0, 2), BEYOND);
    e.due("many(3)", x.many(3), 10);
  }

  private static void instances() {
    EqualCourt x = new EqualCourt();
    int h0 = x.name(90), h1 = x.name(91), h2 = x.name(92), not = x.name(93), no = x.name(89);
    int g = x.row(h1, not), f = x.built(2, 1, h0, 0, 0);
    int t = x.built(3, 3, f, g, x.even(4, h2, f)); // TERM 8, of 6, 5, 7
    e.due("TERM 8", t, 8);
    e.fine(x, "a HOLE", x.instance(h1, no, not, h0), not);
    e.fine(x, "no HOLE", x.instance(no, h0, h0, h0), no);
    e.fine(x, "by themselves", x.instance(t, h0, h1, h2), t);
    e.fine(x, "all at once", x.instance(t, not, no, h0), 12);
    e.due("first PART first", x.part(12, 0), 9);
    e.due("first PART first", x.part(12, 1), 10);
    e.due("first PART first", x.part(12, 2), 11);
    e.due("f(93)", x.part(9, 0), not);
    e.due("row(89, 93)", x.part(10, 0), no);
    e.due("what fills a HOLE is not filled", x.part(11, 0), h0);
    e.due("f(93) is there once", x.part(11, 1), 9);
    e.refused(x, "t wrong", x.instance(13, 0, 0, 0), BEYOND);
    e.refused(x, "x wrong", x.instance(0, 13, 0, 0), BEYOND);
    e.refused(x, "y wrong", x.instance(0, 0, -1, 0), BEYOND);
    e.refused(x, "z wrong", x.instance(0, 0, 0, MAX), BEYOND);
    for (int i = 0; x.many(0) < 117; i++) x.number(i);
    e.refused(x, "needs 4, has 3", x.instance(t, no, h0, no), FULL);
    e.due("none is made", x.many(0), 117);
    e.fine(x, "what was unmade can be made", x.built(2, 1, no, 0, 0), 117);
    e.due("it is used by none", x.uses(117, 0), NONE);
    e.refused(x, "needs 3, has 2", x.instance(t, no, h0, no), FULL);
    e.fine(x, "needs none", x.instance(g, no, no, no), 10);
    e.fine(x, "needs 1, has 2", x.instance(g, no, h0, no), 118);
    e.fine(x, "needs 1, has 1", x.instance(7, no, h0, no), 119);
    e.refused(x, "needs 1, has none", x.instance(t, no, h0, no), FULL);
  }

  private static void deepInstances() {
    EqualCourt x = new EqualCourt();
    int t = x.name(90);
    for (int i = 0; i < 59; i++) t = x.built(0, 2, t, t, 0);
    int a = x.number(0);
    e.fine(x, "59 deep", x.instance(t, a, a, a), 119);
    e.refused(x, "no room", x.instance(t, t, t, t), FULL);
    e.due("many(0)", x.many(0), 120);
    EqualCourt y = new EqualCourt();
    int u = y.name(90);
    for (int i = 0; i < 118; i++) u = y.built(0, 1, u, 0, 0);
    e.fine(y, "118 deep, by itself", y.instance(u, 0, 0, 0), u);
    int b = y.number(0);
    e.refused(y, "118 deep", y.instance(u, b, b, b), FULL);
  }

  private static void following() {
    EqualCourt x = Scenes.lawful(3);
    // f(90), 2, 3, 4 are gone over, the HOLE isn't.
    e.fine(x, "follow(0, 50)", x.follow(0, 50), 4);
    e.due("ended()", x.ended(), 0);
    e.due("f(f(90)) is f(90)", x.judge(1, 5), 1);
    e.due("said(0, 1)", x.said(0, 1), 5);
    e.due("said(0, 2)", x.said(0, 2), 1);
    e.due("said(3, 1)", x.said(3, 1), 8);
    e.due("many(0)", x.many(0), 9);
    e.fine(x, "follow(0, 50) again", x.follow(0, 50), 0);
    e.due("ended()", x.ended(), 0);
    e.refused(x, "law 1", x.follow(1, 1), BEYOND);
    e.refused(x, "law -1", x.follow(-1, 1), BEYOND);
    e.refused(x, "n 0", x.follow(0, 0), BEYOND);
    e.refused(x, "n 51", x.follow(0, 51), BEYOND);
    e.due("a refused one leaves ended()", x.ended(), 0);
    EqualCourt y = Scenes.lawful(3);
    e.fine(y, "follow(0, 2)", y.follow(0, 2), 2);
    e.due("ended()", y.ended(), 1);
    e.fine(y, "the rest, all that was asked for", y.follow(0, 2), 2);
    e.due("ended()", y.ended(), 1);
  }

  private static void followingToTheEnds() {
    EqualCourt x = Scenes.lawful(89);
    for (int i = 0; i < 26; i++) x.number(i);
    // 117 TERMS: f(90), 89 NAMES, 26 NUMBERS, and room for 3.
    e.fine(x, "TERMS", x.follow(0, 50), 3);
    e.due("ended()", x.ended(), 2);
    e.due("many(0)", x.many(0), 120);
    EqualCourt y = Scenes.lawful(3);
    for (int i = 0; i < 98; i++) y.say(2, 2);
    e.fine(y, "SAYINGS", y.follow(0, 50), 2);
    e.due("ended()", y.ended(), 3);
    e.due("the INSTANCE stays", y.many(0), 8);
    // Only when one more would come.
    EqualCourt z = Scenes.lawful(1);
    for (int i = 0; i < 98; i++) z.say(2, 2);
    e.fine(z, "SAYINGS that do", z.follow(0, 50), 2);
    e.due("ended()", z.ended(), 0);
    EqualCourt c = Scenes.lawful(2);
    c.unlike(3, c.built(0, 1, 3, 0, 0));
    e.fine(c, "CLASH", c.follow(0, 50), 2);
    e.due("ended()", c.ended(), 4);
    tellsClashed(c, 0);
    // 100 SAYINGS are looked for ahead of a CLASH.
    EqualCourt d = Scenes.lawful(0);
    int n = d.number(1);
    d.unlike(n, d.built(0, 1, n, 0, 0));
    for (int i = 0; i < 98; i++) d.say(n, n);
    e.fine(d, "SAYINGS and CLASH", d.follow(0, 50), 1);
    e.due("ended()", d.ended(), 3);
    tellsClashed(d);
  }

  private static void followingHalfInstances() {
    // f(90) is g(h(90)): with room for two, f(x) stays and h(x) stays away.
    EqualCourt x = new EqualCourt();
    int h = x.name(90);
    int f = x.built(0, 1, h, 0, 0), g = x.built(1, 1, x.built(2, 1, h, 0, 0), 0, 0);
    x.law(f, g);
    for (int i = 0; x.many(0) < 118; i++) x.number(i);
    e.fine(x, "follow(0, 50)", x.follow(0, 50), 0);
    e.due("ended()", x.ended(), 2);
    e.due("f(f(90)) stays", x.many(0), 119);
    e.due("it is f(f(90))", x.part(118, 0), f);
    e.due("it is f(f(90))", x.shows(118), 0);
    e.fine(x, "h(f(90)) was not made", x.built(2, 1, f, 0, 0), 119);
  }

  private static void followingHoles() {
    // No HOLE: once.
    EqualCourt x = Scenes.withNames(3);
    x.law(1, 2);
    e.fine(x, "no HOLE", x.follow(0, 50), 1);
    e.due("judge(1, 2)", x.judge(1, 2), 1);
    // HOLE 91 alone: 90 and 92 are the first HEAD TERM.
    EqualCourt y = Scenes.withNames(2);
    int h = y.name(91);
    y.law(y.row(h, h), h);
    e.fine(y, "HOLE 91", y.follow(0, 2), 2);
    e.due("row(0, 0)", y.row(0, 0), 4);
    e.due("row(1, 1)", y.row(1, 1), 5);
    // HOLES 90 and 92, in two TERMS: x is slower than z.
    EqualCourt z = new EqualCourt();
    int p = z.name(90), r = z.name(92), n = z.name(0), m = z.name(1);
    z.law(p, r);
    e.fine(z, "HOLES 90 and 92", z.follow(0, 50), 1);
    e.due("said(0, 1)", z.said(0, 1), n);
    e.due("said(0, 2)", z.said(0, 2), m);
    // Only HOLES, or a CLASS whose HEAD TERM is one: nothing to go over.
    EqualCourt w = new EqualCourt();
    int q = w.name(90);
    w.law(q, q);
    e.refused(w, "only HOLES", w.follow(0, 50), OPEN);
    w.say(q, w.name(3));
    e.refused(w, "a HOLE is the HEAD TERM", w.follow(0, 50), OPEN);
    e.refused(w, "BEYOND is ahead", w.follow(0, 51), BEYOND);
    e.due("ended()", w.ended(), NONE);
    w.name(94);
    e.fine(w, "one more", w.follow(0, 50), 0);
    e.due("ended()", w.ended(), 0);
    // A CLASS with a HOLE that isn't its HEAD TERM is gone over.
    EqualCourt v = Scenes.withNames(1);
    v.say(0, v.name(90));
    v.law(v.name(91), v.name(90));
    e.fine(v, "by its HEAD TERM", v.follow(0, 50), 0);
    e.due("ended()", v.ended(), 0);
  }

  private static void claims() {
    EqualCourt x = Scenes.withNames(2);
    e.refused(x, "claim(1, 2, 0, 0, 0)", x.claim(1, 2, 0, 0, 0), BEYOND);
    e.refused(x, "claim(1, 0, -1, 0, 0)", x.claim(1, 0, -1, 0, 0), BEYOND);
    for (int i = 0; i < 100; i++) e.fine(x, "claim", x.claim(MIN, 0, 1, MAX, MIN), i);
    e.refused(x, "FULL", x.claim(1, 0, 0, 0, 0), FULL);
    e.refused(x, "BEYOND is ahead", x.claim(1, 2, 0, 0, 0), BEYOND);
    e.due("many(4)", x.many(4), 100);
    e.due("check(0, 1)", x.check(0, 1), 0);
    x.drop(0);
    e.fine(x, "unclaim()", x.unclaim(), 100);
    e.due("many(4)", x.many(4), 0);
    e.fine(x, "unclaim() again", x.unclaim(), 0);
    e.fine(x, "numbered from 0 on", x.claim(1, 0, 0, 0, 0), 0);
  }

  private static void isRight(EqualCourt x, String why, int... s) {
    int k = x.claim(s[0], s[1], s[2], s[3], s[4]);
    e.due(why + ", right", x.check(s[1], s[2]), -1);
    e.due(why + ", of another", x.check(s[1], 119), k + 1);
  }

  /** All STEPS so far are right; this one isn't, and they are claimed anew without it. */
  private static void isWrong(EqualCourt x, int[][] kept, String why, int... s) {
    x.unclaim();
    for (int[] k : kept) x.claim(k[0], k[1], k[2], k[3], k[4]);
    int at = x.claim(s[0], s[1], s[2], s[3], s[4]);
    e.due(why + ", wrong", x.check(s[1], s[2]), at);
    x.claim(1, 0, 0, 0, 0);
    e.due(why + ", wrong, though the last is right", x.check(0, 0), at);
  }

  private static void checks() {
    EqualCourt x = Scenes.withNames(5);
    int s = x.say(0, 1), u = x.unlike(0, 4), r = x.row(0, 2), q = x.row(1, 3), rq = x.say(r, q);
    int f = x.built(0, 2, 0, 4, 0), g = x.built(0, 2, 1, 4, 0), h = x.built(1, 2, 1, 4, 0), k = x.built(0, 1, 1, 0, 0);
    int v = x.even(0, 0, 2), w = x.even(0, 1, 3), wt = x.even(0, 3, 1), w1 = x.even(1, 1, 3);
    isRight(x, "a SAYING", 0, 0, 1, s, 99);
    e.due("check(1, 0)", x.check(1, 0), 1);
    isRight(x, "a SAYING turned", 0, 1, 0, s, MIN);
    isRight(x, "itself", 1, 4, 4, -1, -1);
    isRight(x, "turned", 2, 0, 1, 1, 77);
    isRight(x, "chained", 3, 0, 0, 0, 1);
    isRight(x, "PARTS", 4, f, g, 0, 0);
    isRight(x, "PARTS of BUILT ones, i is 1", 4, f, g, 1, 0);
    isRight(x, "ROWS said", 0, r, q, rq, 0);
    isRight(x, "FIRSTS", 5, 0, 1, 7, 0);
    isRight(x, "RESTS", 6, 2, 3, 7, 0);
    isRight(x, "ROWS by PARTS", 4, r, q, 5, 0);
    isRight(x, "EVEN ones", 4, v, w, 0, 0);
    isRight(x, "EVEN ones turned", 4, v, wt, 1, 0);
    int[][] kept = {{0, 0, 1, s, 0}, {0, r, q, rq, 0}, {6, 2, 3, 1, 0}, {1, r, r, 0, 0}};
    isWrong(x, kept, "no such SAYING", 0, 0, 1, 3, 0);
    isWrong(x, kept, "no such SAYING", 0, 0, 1, -1, 0);
    isWrong(x, kept, "an UNLIKE one", 0, 0, 4, u, 0);
    isWrong(x, kept, "of others", 0, 0, 2, s, 0);
    isWrong(x, kept, "of one twice", 0, 0, 0, s, 0);
    isWrong(x, kept, "not itself", 1, 0, 1, 0, 0);
    isWrong(x, kept, "not turned", 2, 0, 1, 0, 0);
    isWrong(x, kept, "itself turned", 2, 3, 3, 4, 0);
    isWrong(x, kept, "turned, -1", 2, 1, 0, -1, 0);
    isWrong(x, kept, "turned, MAX", 2, 1, 0, MAX, 0);
    isWrong(x, kept, "not chained", 3, 0, 1, 0, 0);
    isWrong(x, kept, "chained by itself", 3, r, q, 3, 4);
    isWrong(x, kept, "chained by itself", 3, r, q, 4, 3);
    isWrong(x, kept, "chained, -1", 3, r, q, -1, 1);
    isWrong(x, kept, "chained, MIN", 3, r, q, 1, MIN);
    isWrong(x, kept, "PARTS in the other order", 4, g, f, 0, 0);
    isWrong(x, kept, "another HEAD", 4, f, h, 0, 0);
    isWrong(x, kept, "not as many PARTS", 4, f, k, 0, 0);
    isWrong(x, kept, "no PARTS", 4, 0, 0, 0, 0);
    isWrong(x, kept, "BUILT and EVEN", 4, f, v, 0, 0);
    isWrong(x, kept, "another HEAD, EVEN", 4, v, w1, 0, 0);
    isWrong(x, kept, "EVEN ones, turned by 1", 4, v, w, 1, 0);
    isWrong(x, kept, "EVEN ones, not turned", 4, v, wt, 0, 0);
    isWrong(x, kept, "EVEN ones, turned by 2", 4, v, wt, 2, 0);
    isWrong(x, kept, "FIRSTS that are RESTS", 5, 2, 3, 1, 0);
    isWrong(x, kept, "FIRSTS turned", 5, 1, 0, 1, 0);
    isWrong(x, kept, "RESTS that are FIRSTS", 6, 0, 1, 1, 0);
    isWrong(x, kept, "FIRSTS of no ROWS", 5, 0, 1, 0, 0);
    isWrong(x, kept, "FIRSTS, -1", 5, 0, 1, -1, 0);
    isWrong(x, kept, "RESTS, MAX", 6, 2, 3, MAX, 0);
    isWrong(x, kept, "REASON 7", 7, 0, 0, 0, 0);
    isWrong(x, kept, "REASON -1", -1, 0, 0, 0, 0);
    isWrong(x, kept, "REASON MIN", MIN, 0, 0, 0, 0);
    x.unclaim();
    x.claim(0, 0, 1, s, 0);
    x.drop(s);
    e.due("a GONE SAYING", x.check(0, 1), 0);
  }

  private static void statuses() {
    EqualCourt x = Scenes.withNames(2);
    x.name(100);
    e.due("status()", x.status(), BEYOND);
    x.judge(0, 1);
    x.many(0);
    x.check(0, 0);
    x.world(0);
    x.because(0);
    x.clashed(0);
    x.said(0, 0);
    x.head(0);
    x.member(0, 0);
    x.uses(0, 0);
    x.kind(9);
    x.ended();
    e.due("ASKS leave it", x.status(), BEYOND);
    x.name(1);
    e.due("an ACT that is done ends it", x.status(), 0);
    int zero = x.number(0), one = x.number(1);
    x.law(zero, one);
    e.fine(x, "follow() that ends by CLASH is done", x.follow(0, 1), 0);
    e.due("ended()", x.ended(), 4);
  }

  public static void main(String[] args) {
    e.about("promise 1");
    newObject();
    e.about("promise 2");
    names();
    e.about("promise 3");
    numbers();
    e.about("promise 4");
    builtOnes();
    e.about("promise 5");
    rows();
    e.about("promise 6");
    evenOnes();
    e.about("promise 7");
    kinds();
    e.about("promise 8");
    partsOfTerms();
    e.about("promise 9");
    whatTermsShow();
    e.about("promise 10");
    howMany();
    e.about("promise 11");
    saying();
    e.about("promise 12");
    unlikeness();
    e.about("promise 13");
    dropping();
    e.about("promise 14");
    whatWasSaid();
    e.about("promise 15");
    clashedCore();
    e.about("promise 16");
    judging();
    e.about("promise 17");
    reasons();
    e.about("promise 18");
    leastReasons();
    leastOfAll();
    e.about("promise 19");
    becauseOfTheLatest();
    e.about("promises 20 to 22");
    classesTold();
    e.about("promise 23");
    theWorld();
    e.about("promises 24 and 25");
    levelsBeginAndEnd();
    e.about("promise 26");
    lawsCome();
    e.about("promise 27");
    instances();
    deepInstances();
    e.about("promises 28 and 29");
    following();
    followingToTheEnds();
    followingHalfInstances();
    followingHoles();
    e.about("promises 30 and 31");
    claims();
    e.about("promise 32");
    checks();
    e.about("promise 33");
    statuses();
    e.end();
  }
}
