/** The boundary cases that the document names in promises 24 to 29, sentence by sentence. */
public final class LevelAndLawEdgesTest {
  private static final int BEYOND = 1, FULL = 3, CLASH = 4, OPEN = 6, MISSING = 9;
  private static final int MIN = Integer.MIN_VALUE, MAX = Integer.MAX_VALUE;
  private static final int NONE = EqualCourt.NONE;
  private static final Expect e = new Expect();

  private static void tenLevels() {
    e.about("promise 24: 'FULL: there are 10'");
    EqualCourt x = Scenes.withNames(2);
    for (int level = 1; level <= 10; level++) {
      e.fine(x, "push()", x.push(), level);
      e.due("many(5)", x.many(5), level);
      x.say(0, 1);
    }
    e.refused(x, "the 11th", x.push(), FULL);
    e.refused(x, "the 11th again", x.push(), FULL);
    e.due("many(5)", x.many(5), 10);
    for (int level = 9; level >= 0; level--) {
      e.fine(x, "pop()", x.pop(), level);
      e.due("many(5)", x.many(5), level);
    }
    e.refused(x, "no level is left", x.pop(), MISSING);
    for (int level = 1; level <= 10; level++) e.fine(x, "push() anew", x.push(), level);
    e.refused(x, "the 11th anew", x.push(), FULL);
  }

  private static void noLevel() {
    e.about("promise 25: 'MISSING: there is no level'");
    EqualCourt x = Scenes.withNames(2);
    e.refused(x, "pop()", x.pop(), MISSING);
    x.say(0, 1);
    e.refused(x, "pop()", x.pop(), MISSING);
    e.due("the SAYING stays TAKEN", x.said(0, 3), 1);
    x.push();
    e.fine(x, "pop()", x.pop(), 1);
    e.refused(x, "pop() again", x.pop(), MISSING);
    e.due("many(5)", x.many(5), 0);
  }

  private static void takenAsWhenItBegan() {
    e.about("promise 25: 'SAYINGS are TAKEN that were so when it began, all others are GONE'");
    EqualCourt x = Scenes.withNames(6);
    x.say(0, 1); // 0: GONE ahead of the level
    x.say(1, 2); // 1: stays
    x.unlike(0, 5); // 2: GONE in the level
    x.drop(0);
    x.push();
    x.drop(2);
    x.say(0, 5); // 3: comes in the level
    x.unlike(3, 4); // 4: comes in the level, and is GONE there
    x.drop(4);
    e.fine(x, "pop()", x.pop(), 2);
    int[] want = {0, 1, 1, 0, 0};
    for (int s = 0; s < 5; s++) e.due("said(" + s + ", 3)", x.said(s, 3), want[s]);
    e.due("judge(0, 5), UNLIKE again", x.judge(0, 5), 0);
    e.due("judge(1, 2)", x.judge(1, 2), 1);
    e.due("judge(0, 1)", x.judge(0, 1), 2);
    e.due("judge(3, 4)", x.judge(3, 4), 2);
    e.due("many(6)", x.many(6), 5);
    e.refused(x, "say(0, 5)", x.say(0, 5), CLASH);
    e.fine(x, "numbers go on", x.say(3, 4), 5);
  }

  private static void levelsInLevels() {
    e.about("promise 25: 'the latest level ends'");
    EqualCourt x = Scenes.withNames(4);
    x.push();
    x.say(0, 1); // 0
    x.push();
    x.drop(0);
    x.say(1, 2); // 1
    x.push();
    x.drop(1);
    x.say(2, 3); // 2
    e.fine(x, "the third", x.pop(), 1);
    e.due("judge(1, 2)", x.judge(1, 2), 1);
    e.due("judge(2, 3)", x.judge(2, 3), 2);
    e.due("judge(0, 1)", x.judge(0, 1), 2);
    e.fine(x, "the second", x.pop(), 1);
    e.due("judge(0, 1)", x.judge(0, 1), 1);
    e.due("judge(1, 2)", x.judge(1, 2), 2);
    e.fine(x, "the first", x.pop(), 0);
    e.due("judge(0, 1)", x.judge(0, 1), 2);
    // What an ended level remembered is not remembered by a new one.
    x.say(0, 3); // 3
    e.fine(x, "push()", x.push(), 1);
    x.drop(3);
    e.fine(x, "pop()", x.pop(), 1);
    e.due("judge(0, 3)", x.judge(0, 3), 1);
  }

  private static void levelsWithNothing() {
    e.about("promises 24, 25: a level with no SAYING, and one with 100");
    EqualCourt x = new EqualCourt();
    e.fine(x, "push()", x.push(), 1);
    e.fine(x, "pop()", x.pop(), 0);
    x = Scenes.withNames(2);
    x.push();
    for (int s = 0; s < 100; s++) x.say(0, 1);
    x.push();
    for (int s = 0; s < 100; s++) x.drop(s);
    e.fine(x, "all are TAKEN again", x.pop(), 100);
    e.due("said(99, 3)", x.said(99, 3), 1);
    e.fine(x, "all are GONE", x.pop(), 0);
    e.due("said(99, 3)", x.said(99, 3), 0);
    e.due("said(0, 3)", x.said(0, 3), 0);
    e.due("SAYINGS that are GONE are there", x.many(1), 100);
    e.refused(x, "there are 100 still", x.say(0, 1), FULL);
  }

  private static void whatStaysWhenALevelEnds() {
    e.about("promise 25: '(TERMS, LAWS and STEPS stay)'");
    EqualCourt x = Scenes.withNames(2);
    x.push();
    x.say(0, 1);
    int f = x.built(0, 1, 0, 0, 0), g = x.built(0, 1, 1, 0, 0);
    x.law(f, g);
    x.claim(0, 0, 1, 0, 0);
    x.why(f, g);
    x.unlike(f, g);
    e.due("check(0, 1)", x.check(0, 1), -1);
    e.fine(x, "pop()", x.pop(), 0);
    e.due("TERMS", x.many(0), 4);
    e.due("LAWS", x.many(3), 1);
    e.due("STEPS", x.many(4), 1);
    e.due("STEPS are checked by COURT as it is", x.check(0, 1), 0);
    e.due("they are not ONE", x.judge(f, g), 2);
    e.due("what was told stays", x.because(0), 0);
    e.due("what was told stays", x.clashed(0), 0);
  }

  private static void lawsOfNoTerm() {
    e.about("promise 26: 'BEYOND: one is no TERM'");
    EqualCourt x = Scenes.withNames(2);
    for (int wrong : new int[] {-1, 2, 119, 120, MIN, MAX}) {
      e.refused(x, "law(" + wrong + ", 0)", x.law(wrong, 0), BEYOND);
      e.refused(x, "law(0, " + wrong + ")", x.law(0, wrong), BEYOND);
    }
    e.due("many(3)", x.many(3), 0);
    e.fine(x, "the last TERM twice", x.law(1, 1), 0);
  }

  private static void tenLaws() {
    e.about("promise 26: 'FULL: there are 10'");
    EqualCourt x = Scenes.withNames(2);
    for (int l = 0; l < 10; l++) e.fine(x, "law " + l, x.law(0, 0), l);
    e.refused(x, "the 11th, though it is there", x.law(0, 0), FULL);
    e.refused(x, "the 11th", x.law(0, 1), FULL);
    e.refused(x, "BEYOND ahead of FULL", x.law(0, 2), BEYOND);
    e.refused(x, "BEYOND ahead of FULL", x.law(-1, 0), BEYOND);
    e.due("many(3)", x.many(3), 10);
    e.fine(x, "the 10th is followed", x.follow(9, 1), 0);
    e.refused(x, "there is no 11th", x.follow(10, 1), BEYOND);
  }

  private static void instancesOfNoTerm() {
    e.about("promise 27: 'BEYOND: one of the four is no TERM'");
    EqualCourt x = Scenes.withNames(2);
    for (int wrong : new int[] {-1, 2, 119, 120, MIN, MAX}) {
      e.refused(x, "t is " + wrong, x.instance(wrong, 0, 0, 0), BEYOND);
      e.refused(x, "x is " + wrong, x.instance(0, wrong, 0, 0), BEYOND);
      e.refused(x, "y is " + wrong, x.instance(0, 0, wrong, 0), BEYOND);
      e.refused(x, "z is " + wrong, x.instance(0, 0, 0, wrong), BEYOND);
    }
    e.fine(x, "the last TERM", x.instance(1, 1, 1, 1), 1);
    EqualCourt full = Scenes.withTerms(120);
    int f = 119;
    e.fine(full, "no HOLE, all full", full.instance(f, 0, 0, 0), f);
    e.refused(full, "BEYOND, all full", full.instance(f, 0, 0, 120), BEYOND);
  }

  private static void holesAreNames90To92() {
    e.about("Terms: 'NAMES 90, 91, 92 are HOLES'");
    EqualCourt x = new EqualCourt();
    int[] names = {x.name(89), x.name(90), x.name(91), x.name(92), x.name(93), x.number(90), x.number(91)};
    int a = x.name(0), b = x.name(1), c = x.name(2);
    int[] want = {names[0], a, b, c, names[4], names[5], names[6]};
    for (int i = 0; i < 7; i++) e.fine(x, "instance of TERM " + i, x.instance(names[i], a, b, c), want[i]);
    e.fine(x, "what fills a HOLE may be one", x.instance(names[1], names[2], names[1], c), names[2]);
    e.fine(x, "and the other way", x.instance(names[2], names[2], names[1], c), names[1]);
    int both = x.row(names[1], names[2]), turned = x.row(names[2], names[1]);
    e.fine(x, "all at once", x.instance(both, names[2], names[1], c), turned);
    e.due("nothing was made", x.many(0), 12);
  }

  private static void instancesNumberTheirTerms() {
    e.about("Terms: 'PARTS ahead of what they are PARTS of, the first PART first'");
    EqualCourt x = new EqualCourt();
    int h = x.name(90), a = x.name(0);
    int f = x.built(1, 1, h, 0, 0), g = x.built(2, 1, f, 0, 0), k = x.built(3, 1, h, 0, 0);
    int t = x.built(4, 3, k, x.row(g, a), x.even(5, f, k)); // of k(h), row(g(f(h)), a), even(f(h), k(h))
    e.due("TERM 7", t, 7);
    e.fine(x, "instance(t, a, a, a)", x.instance(t, a, a, a), 13);
    e.fine(x, "k(a) is 8", x.built(3, 1, a, 0, 0), 8);
    e.fine(x, "f(a) is 9", x.built(1, 1, a, 0, 0), 9);
    e.fine(x, "g(f(a)) is 10", x.built(2, 1, 9, 0, 0), 10);
    e.fine(x, "row(g(f(a)), a) is 11", x.row(10, a), 11);
    e.fine(x, "even(f(a), k(a)) is 12", x.even(5, 9, 8), 12);
    e.fine(x, "it is there", x.instance(t, a, h, h), 13);
    e.due("many(0)", x.many(0), 14);
  }

  private static void instancesThatNeedTooMuch() {
    e.about("promise 27: 'FULL: it would need more than 120 TERMS (then none is made)'");
    for (int room = 0; room <= 4; room++) {
      EqualCourt x = new EqualCourt();
      int h = x.name(90), a = x.name(0);
      int t = x.row(x.built(0, 1, h, 0, 0), x.built(1, 1, x.even(0, h, h), 0, 0)); // needs 4
      for (int v = 0; x.many(0) < 120 - room; v++) x.number(v);
      if (room == 4) {
        e.fine(x, "just room enough", x.instance(t, a, a, a), 119);
        e.fine(x, "it is there when all is full", x.instance(t, a, h, h), 119);
        e.refused(x, "another is not", x.instance(t, 119, h, h), FULL);
      } else {
        e.refused(x, "room for " + room, x.instance(t, a, a, a), FULL);
        e.due("none is made", x.many(0), 120 - room);
        e.due("none is made", x.kind(120 - room), NONE);
        e.due("none is built of it", x.uses(a, 0), NONE);
        e.due("CLASSES stay", x.many(6), 120 - room);
      }
      e.refused(x, "BEYOND ahead of FULL", x.instance(t, a, a, 120), BEYOND);
    }
  }

  private static void whatWasNotMadeCanBeMade() {
    e.about("promise 27: '(then none is made)': what it would have made comes later as a new TERM");
    EqualCourt x = new EqualCourt();
    int h = x.name(90), a = x.name(0), b = x.name(1);
    int row = x.row(h, h), even = x.even(0, row, h), f = x.built(0, 1, even, 0, 0), t = x.built(1, 3, f, even, row);
    int g = x.built(5, 1, a, 0, 0), k = x.built(5, 1, b, 0, 0);
    for (int v = 0; v < 108; v++) x.number(v);
    e.due("room for 3", x.many(0), 117);
    e.refused(x, "it needs 4", x.instance(t, a, a, a), FULL);
    e.due("many(0)", x.many(0), 117);
    e.fine(x, "the EVEN one's ROW is not there", x.row(a, a), 117);
    e.refused(x, "it needs 3", x.instance(t, a, a, a), FULL);
    e.fine(x, "the EVEN one is not there", x.even(0, 117, a), 118);
    e.refused(x, "it needs 2", x.instance(t, a, a, a), FULL);
    e.fine(x, "the BUILT one is not there", x.built(0, 1, 118, 0, 0), 119);
    e.refused(x, "it needs 1", x.instance(t, a, a, a), FULL);
    int[] uses = {g, 117, 118, NONE};
    for (int i = 0; i < uses.length; i++) e.due("uses(a, " + i + ")", x.uses(a, i), uses[i]);
    x.say(b, a);
    e.due("what was built of its PARTS ahead is judged as ever", x.judge(g, k), 1);
    e.due("CLASSES", x.many(6), 118);
    x.say(h, a);
    e.due("what was made is judged as ever", x.judge(row, 117), 1);
    e.due("what was made is judged as ever", x.judge(even, 118), 1);
    e.due("what was made is judged as ever", x.judge(f, 119), 1);
  }

  private static void instancesMakeNoMore() {
    e.about("Terms: 'the TERMS that this needs are made'");
    EqualCourt x = new EqualCourt();
    int h = x.name(90), o = x.name(91), a = x.name(0), f = x.built(0, 1, o, 0, 0);
    x.built(1, 3, a, a, f); // its neighbours have PARTS in which a HOLE stands
    int t = x.built(2, 3, h, h, a);
    x.built(3, 3, f, f, f);
    e.fine(x, "one TERM", x.instance(t, a, a, a), 7);
    e.due("many(0)", x.many(0), 8);
  }

  private static void instancesWhenFull() {
    e.about("promise 27: what is there is no need");
    EqualCourt x = new EqualCourt();
    int h = x.name(90), a = x.name(0), b = x.name(1);
    int f = x.built(0, 1, h, 0, 0), g = x.built(1, 1, f, 0, 0);
    int fa = x.built(0, 1, a, 0, 0), gfa = x.built(1, 1, fa, 0, 0), fb = x.built(0, 1, b, 0, 0);
    for (int v = 0; x.many(0) < 119; v++) x.number(v);
    e.fine(x, "all there", x.instance(g, a, a, a), gfa);
    e.fine(x, "f(b) is there, g(f(b)) is the 120th", x.instance(g, b, a, a), 119);
    e.fine(x, "PART 0", x.part(119, 0), fb);
    e.refused(x, "f(f(90)) would be the 121st", x.instance(f, f, a, a), FULL);
    e.fine(x, "by itself", x.instance(g, h, a, a), g);
  }

  private static void followNoSuchLaw() {
    e.about("promise 28: 'BEYOND: there is no such LAW, or n is not 1 to 50'");
    EqualCourt x = Scenes.withNames(2);
    e.refused(x, "no LAW yet", x.follow(0, 1), BEYOND);
    x.law(0, 1);
    for (int l : new int[] {-1, 1, 9, 10, MIN, MAX}) e.refused(x, "follow(" + l + ", 1)", x.follow(l, 1), BEYOND);
    for (int n : new int[] {0, -1, 51, MIN, MAX}) e.refused(x, "follow(0, " + n + ")", x.follow(0, n), BEYOND);
    e.due("nothing came", x.many(1), 0);
    e.due("none was followed", x.ended(), NONE);
    e.fine(x, "n 50", x.follow(0, 50), 1);
    x.drop(0);
    e.fine(x, "n 1", x.follow(0, 1), 1);
    EqualCourt holes = new EqualCourt();
    holes.law(holes.name(90), holes.name(91));
    e.refused(holes, "BEYOND ahead of OPEN: n", holes.follow(0, 0), BEYOND);
    e.refused(holes, "BEYOND ahead of OPEN: LAW", holes.follow(1, 1), BEYOND);
  }

  private static void followNothing() {
    e.about("promise 28: 'OPEN: there is no HEAD TERM to go over'");
    EqualCourt x = new EqualCourt();
    int h0 = x.name(90), h1 = x.name(91), h2 = x.name(92);
    x.law(h0, h1);
    e.refused(x, "HOLES alone", x.follow(0, 1), OPEN);
    e.due("ended()", x.ended(), NONE);
    x.say(x.name(0), h2);
    e.refused(x, "a CLASS whose HEAD TERM is a HOLE", x.follow(0, 50), OPEN);
    x.law(3, 3);
    e.refused(x, "the same for a LAW without HOLES", x.follow(1, 50), OPEN);
    x.drop(0);
    e.fine(x, "the NAME is a CLASS again", x.follow(0, 50), 0);
    e.due("ended()", x.ended(), 0);
    EqualCourt y = new EqualCourt();
    y.law(y.name(90), y.name(90));
    y.name(93);
    e.fine(y, "NAME 93 is no HOLE", y.follow(0, 50), 0);
    EqualCourt z = new EqualCourt();
    z.law(z.name(90), z.name(90));
    z.name(89);
    e.fine(z, "NAME 89 is no HOLE", z.follow(0, 50), 0);
    EqualCourt w = new EqualCourt();
    w.law(w.name(90), w.name(90));
    w.number(90);
    e.fine(w, "NUMBER 90 is no HOLE", w.follow(0, 50), 0);
  }

  private static void followEndsWhenNCame() {
    e.about("promise 28, 29: 'It ends when n of these came'; '1 n came'");
    EqualCourt x = Scenes.lawful(3); // f(90) and three NAMES are gone over
    e.fine(x, "n 1", x.follow(0, 1), 1);
    e.due("ended()", x.ended(), 1);
    e.due("many(1)", x.many(1), 1);
    e.due("no INSTANCE behind it", x.many(0), 6);
    EqualCourt y = Scenes.lawful(3);
    e.fine(y, "n 3", y.follow(0, 3), 3);
    e.due("ended()", y.ended(), 1);
    EqualCourt z = Scenes.lawful(3);
    e.fine(z, "n 5", z.follow(0, 5), 4);
    e.due("ended()", z.ended(), 0);
    e.about("promise 28, 29: 50 and 49 that come");
    EqualCourt fifty = Scenes.lawful(55);
    e.fine(fifty, "n 50", fifty.follow(0, 50), 50);
    e.due("ended()", fifty.ended(), 1);
    e.due("many(1)", fifty.many(1), 50);
    e.due("many(0)", fifty.many(0), 107);
    EqualCourt less = Scenes.lawful(48);
    e.fine(less, "n 50", less.follow(0, 50), 49);
    e.due("ended()", less.ended(), 0);
  }

  private static void followEndsWhenAllIsGoneOver() {
    e.about("promise 29: '0 all was gone over'");
    EqualCourt x = Scenes.lawful(2);
    e.fine(x, "three come", x.follow(0, 4), 3);
    e.due("ended()", x.ended(), 0);
    e.fine(x, "none comes", x.follow(0, 1), 0);
    e.due("ended()", x.ended(), 0);
    e.due("what is ONE needs no SAYING", x.many(1), 3);
    x.drop(1);
    e.fine(x, "what is GONE comes anew", x.follow(0, 4), 1);
    e.due("said(3, 1)", x.said(3, 1), x.said(1, 1));
    e.due("ended()", x.ended(), 0);
  }

  private static void followEndsWhenTermsAreFull() {
    e.about("promise 28, 29: 'when TERMS would be more than 120'; '2 TERMS'");
    for (int room = 0; room <= 3; room++) {
      EqualCourt x = Scenes.lawful(2); // needs 3 TERMS
      for (int i = 0; x.many(0) < 120 - room; i++) x.built(5, 2, 0, i, 0);
      e.fine(x, "room for " + room, x.follow(0, 50), room);
      e.due("ended()", x.ended(), 2);
      e.due("many(0)", x.many(0), 120);
      e.due("many(1)", x.many(1), room);
    }
    EqualCourt x = Scenes.lawful(0);
    for (int t = 1; t < 118; t++) x.built(0, 1, t, 0, 0);
    // TERMS 1 to 118 are f(90), f(f(90)), ..: of the last one alone the INSTANCE is not there, and it has room.
    x.say(1, 2);
    e.fine(x, "one CLASS beside the HOLE", x.follow(0, 50), 0);
    e.due("ended()", x.ended(), 0);
    x.built(0, 1, 118, 0, 0);
    e.fine(x, "all is full, but no TERM is needed", x.follow(0, 50), 0);
    e.due("ended()", x.ended(), 0);
  }

  private static void whatIsNotWholeStaysAway() {
    e.about("promise 28: 'what an INSTANCE that is not whole made stays away; the first one's of two stays'");
    // Each INSTANCE of both needs two TERMS.
    int[] stays = {0, 0, 2, 2, 4};
    int[] come = {0, 0, 0, 0, 1};
    for (int room = 0; room <= 4; room++) {
      EqualCourt x = new EqualCourt();
      int h = x.name(90);
      int left = x.built(1, 1, x.built(0, 1, h, 0, 0), 0, 0), right = x.built(3, 1, x.built(2, 1, h, 0, 0), 0, 0);
      x.law(left, right);
      for (int v = 0; x.many(0) < 120 - room; v++) x.number(v);
      e.fine(x, "room for " + room, x.follow(0, 50), come[room]);
      e.due("ended()", x.ended(), 2);
      e.due("what stays with room for " + room, x.many(0), 120 - room + stays[room]);
      e.due("its CLASSES", x.many(6), 120 - room + stays[room] - come[room]);
    }
  }

  private static void halfOfTwo() {
    e.about("promise 28: 'the first one's of two stays', its TERMS and no more");
    EqualCourt x = new EqualCourt();
    int h = x.name(90), f = x.built(0, 1, h, 0, 0), g = x.built(1, 1, x.built(2, 1, h, 0, 0), 0, 0);
    x.law(f, g);
    for (int v = 0; x.many(0) < 118; v++) x.number(v);
    e.fine(x, "follow", x.follow(0, 50), 0);
    e.due("ended()", x.ended(), 2);
    e.due("one of two stays", x.many(0), 119);
    e.fine(x, "it is f(f(90))", x.instance(f, f, f, f), 118);
    e.due("nothing else is built of f(90)", x.uses(f, 1), NONE);
    e.due("CLASSES", x.many(6), 119);
    e.fine(x, "there is room for one", x.name(0), 119);
  }

  private static void followEndsWhenSayingsAreFull() {
    e.about("promise 28, 29: 'when there are 100 SAYINGS and one more would come'; '3 SAYINGS'");
    EqualCourt x = Scenes.lawful(2); // three would come
    for (int s = 0; s < 98; s++) x.say(0, 0);
    e.fine(x, "two come", x.follow(0, 50), 2);
    e.due("ended()", x.ended(), 3);
    e.due("many(1)", x.many(1), 100);
    e.due("the third one's INSTANCES stay", x.many(0), 7);
    e.fine(x, "none comes", x.follow(0, 50), 0);
    e.due("ended()", x.ended(), 3);
    EqualCourt y = Scenes.lawful(2);
    for (int s = 0; s < 97; s++) y.say(0, 0);
    e.fine(y, "three come", y.follow(0, 50), 3);
    e.due("none more would come", y.ended(), 0);
    e.fine(y, "none would come", y.follow(0, 50), 0);
    e.due("there are 100, and all is gone over", y.ended(), 0);
    EqualCourt z = Scenes.lawful(2);
    for (int s = 0; s < 98; s++) z.say(0, 0);
    e.fine(z, "two come, which is n", z.follow(0, 2), 2);
    e.due("ended()", z.ended(), 1);
    EqualCourt gone = Scenes.lawful(0);
    for (int s = 0; s < 100; s++) gone.say(0, 0);
    gone.drop(0);
    e.fine(gone, "one that is GONE is there still", gone.follow(0, 50), 0);
    e.due("ended()", gone.ended(), 3);
  }

  private static void followEndsWhenOneWouldClash() {
    e.about("promise 28, 29: 'when one would CLASH (clashed() tells with which)'; '4 CLASH'");
    EqualCourt x = Scenes.lawful(3);
    int f1 = x.built(0, 1, 3, 0, 0);
    x.say(4, 4);
    x.unlike(3, f1);
    e.fine(x, "two come ahead of it", x.follow(0, 50), 2);
    e.due("ended()", x.ended(), 4);
    e.due("clashed(0)", x.clashed(0), 1);
    e.due("clashed(1)", x.clashed(1), NONE);
    e.due("all that came stays", x.many(1), 4);
    e.due("all that came stays", x.said(2, 3), 1);
    e.due("all that came stays", x.said(3, 3), 1);
    e.due("the one that would CLASH does not come", x.judge(3, f1), 0);
    e.due("none behind it", x.uses(4, 0), NONE);
    EqualCourt y = Scenes.withNames(1);
    y.law(y.number(1), y.number(2));
    y.unlike(0, 0);
    e.fine(y, "two NUMBERS", y.follow(0, 50), 0);
    e.due("ended()", y.ended(), 4);
    e.due("an empty CORE", y.clashed(0), NONE);
    EqualCourt z = Scenes.withNames(3);
    z.unlike(0, 1);
    z.law(0, 1);
    for (int s = 1; s < 100; s++) z.say(2, 2);
    e.fine(z, "100 SAYINGS are looked for ahead of a CLASH", z.follow(0, 50), 0);
    e.due("ended()", z.ended(), 3);
    e.due("clashed(0)", z.clashed(0), NONE);
  }

  private static void followGoesOverInRisingOrder() {
    e.about("promise 28: 'as x, and for each as y, and for each as z, in rising order'");
    EqualCourt x = new EqualCourt();
    int h0 = x.name(90), h1 = x.name(91), h2 = x.name(92), a = x.name(0);
    x.law(x.built(0, 3, h0, h1, h2), a); // TERM 4
    int[] over = {a, 4}; // the NAME, and the LAW's own TERM
    e.fine(x, "eight come", x.follow(0, 50), 8);
    int s = 0;
    for (int p : over) {
      for (int q : over) {
        for (int r : over) {
          int t = x.said(s, 1);
          e.due("the TERM of SAYING " + s, t, 5 + s);
          e.due("x", x.part(t, 0), p);
          e.due("y", x.part(t, 1), q);
          e.due("z", x.part(t, 2), r);
          e.due("the other side", x.said(s, 2), a);
          s++;
        }
      }
    }
    e.due("ended()", x.ended(), 0);
  }

  private static void followOnlyTheHolesThatStand() {
    e.about("promise 28: 'for one that does not, the first of them is taken alone'");
    for (int hole = 0; hole < 3; hole++) {
      EqualCourt x = Scenes.withNames(3);
      int h = x.name(90 + hole);
      x.law(x.row(h, h), 0);
      e.fine(x, "HOLE " + (90 + hole) + " alone", x.follow(0, 50), 4);
      e.due("four are gone over, each once", x.many(0), 9);
      EqualCourt y = Scenes.withNames(3);
      int g = y.name(90 + hole), other = y.name(90 + (hole + 1) % 3);
      y.law(y.row(g, 0), y.built(0, 1, other, 0, 0));
      y.follow(0, 50);
      // NAMES 0 to 2 and the LAW's two TERMS, in its first TERM and in its second.
      e.due("one HOLE in each TERM", y.many(0), 7 + 5 + 5);
    }
    EqualCourt none = Scenes.withNames(4);
    none.law(2, 3);
    e.fine(none, "no HOLE", none.follow(0, 50), 1);
    e.due("said(0, 1)", none.said(0, 1), 2);
    e.due("said(0, 2)", none.said(0, 2), 3);
    e.due("ended()", none.ended(), 0);
    e.due("nothing is made", none.many(0), 4);
  }

  private static void followWhatIsThereWhenItBegins() {
    e.about("promise 28: 'the HEAD TERMS of all CLASSES that there are when this begins, but for HOLES'");
    EqualCourt x = Scenes.withNames(2);
    int h = x.name(90), f = x.built(0, 1, h, 0, 0);
    x.law(f, x.built(1, 1, h, 0, 0));
    e.fine(x, "0, 1, f(90), g(90): none of those that are made", x.follow(0, 50), 4);
    e.due("many(0)", x.many(0), 13);
    EqualCourt y = Scenes.withNames(3);
    y.say(2, 0);
    int k = y.name(90);
    y.law(y.built(0, 1, k, 0, 0), k);
    e.fine(y, "0, 1 and f(90): one for each CLASS", y.follow(0, 50), 3);
    e.due("f(0) is made", y.part(y.said(1, 1), 0), 0);
    e.due("f(1) is made", y.part(y.said(2, 1), 0), 1);
    e.due("f(f(90)) is made", y.part(y.said(3, 1), 0), 4);
    e.due("f(2) is not made", y.many(0), 8);
    // 1 is ONE with 0 by what comes ahead of its turn; it is gone over all the same.
    EqualCourt z = Scenes.withNames(2);
    int p = z.name(90);
    int g = z.built(0, 1, p, 0, 0);
    z.law(g, 1);
    z.say(z.built(0, 1, 0, 0, 0), 0);
    e.fine(z, "f(0) is 1, so that 0 and 1 are ONE; f(1) is made, and ONE already", z.follow(0, 50), 2);
    e.due("f(1) is there", z.uses(1, 1), z.built(0, 1, 1, 0, 0));
    e.due("ended()", z.ended(), 0);
    // A HOLE in a CLASS is no matter if it is not the HEAD TERM.
    EqualCourt w = Scenes.withNames(1);
    int q = w.name(90);
    w.say(q, 0);
    w.law(w.row(q, q), q);
    e.fine(w, "row(0, 0) is 0; row(2, 2) is ONE with it then", w.follow(0, 50), 1);
    e.fine(w, "0 was gone over", w.row(0, 0), 3);
    e.fine(w, "and the ROW", w.row(2, 2), 4);
  }

  private static void endedOfTheLatestThatWasDone() {
    e.about("promise 29: 'the latest follow() that was done'; 'NONE if there was none yet'");
    EqualCourt x = new EqualCourt();
    e.due("new", x.ended(), NONE);
    x.law(x.name(90), x.name(91));
    x.follow(0, 1);
    e.due("OPEN", x.ended(), NONE);
    x.follow(0, 51);
    e.due("BEYOND", x.ended(), NONE);
    x.name(0);
    x.name(1);
    e.fine(x, "done", x.follow(0, 1), 1);
    e.due("done", x.ended(), 1);
    x.follow(0, 0);
    e.due("BEYOND leaves it", x.ended(), 1);
    x.say(0, 1);
    x.push();
    x.pop();
    e.due("others leave it", x.ended(), 1);
    e.fine(x, "done again", x.follow(0, 1), 0);
    e.due("done again", x.ended(), 0);
  }

  public static void main(String[] args) {
    tenLevels();
    noLevel();
    takenAsWhenItBegan();
    levelsInLevels();
    levelsWithNothing();
    whatStaysWhenALevelEnds();
    lawsOfNoTerm();
    tenLaws();
    instancesOfNoTerm();
    holesAreNames90To92();
    instancesNumberTheirTerms();
    instancesThatNeedTooMuch();
    whatWasNotMadeCanBeMade();
    instancesMakeNoMore();
    instancesWhenFull();
    followNoSuchLaw();
    followNothing();
    followEndsWhenNCame();
    followEndsWhenAllIsGoneOver();
    followEndsWhenTermsAreFull();
    whatIsNotWholeStaysAway();
    halfOfTwo();
    followEndsWhenSayingsAreFull();
    followEndsWhenOneWouldClash();
    followGoesOverInRisingOrder();
    followOnlyTheHolesThatStand();
    followWhatIsThereWhenItBegins();
    endedOfTheLatestThatWasDone();
    e.end();
  }
}
