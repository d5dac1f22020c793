/** The boundary cases that the document names in "Terms" and in promises 1 to 10, sentence by sentence. */
public final class TermEdgesTest {
  private static final int BEYOND = 1, KIND = 2, FULL = 3, NEGATIVE = 8, MISSING = 9;
  private static final int MIN = Integer.MIN_VALUE, MAX = Integer.MAX_VALUE;
  private static final int NONE = EqualCourt.NONE;
  private static final long NO_WORLD = 1099511627776L;
  private static final Expect e = new Expect();

  private static void termsAreNumbered0To119() {
    e.about("Terms: 'TERMS are numbered 0 to 119, as they come'");
    EqualCourt x = new EqualCourt();
    e.fine(x, "the first", x.name(50), 0);
    x.name(100);
    e.fine(x, "the second, behind a refused one", x.number(50), 1);
    e.fine(x, "the third", x.built(0, 1, 1, 0, 0), 2);
    e.fine(x, "the fourth", x.row(0, 2), 3);
    e.fine(x, "the fifth", x.even(0, 0, 2), 4);
    for (int t = 5; t < 119; t++) e.fine(x, "one more", x.number(1000 + t), t);
    e.fine(x, "the 120th", x.built(19, 3, 118, 118, 118), 119);
    e.refused(x, "the 121st", x.built(19, 3, 119, 119, 119), FULL);
    e.due("many(0)", x.many(0), 120);
    e.due("kind(119)", x.kind(119), 2);
    e.due("kind(120)", x.kind(120), NONE);
  }

  private static void whatIsAskedForAgainIsThere() {
    e.about("Terms: 'what is asked for again is the TERM that was there'");
    EqualCourt x = Scenes.withNames(2);
    int number = x.number(0), f = x.built(0, 1, 0, 0, 0), g = x.built(0, 2, 0, 0, 0), h = x.built(0, 3, 0, 0, 0);
    int row = x.row(0, 0), even = x.even(0, 0, 1);
    for (int again = 0; again < 2; again++) {
      e.fine(x, "a NAME", x.name(1), 1);
      e.fine(x, "a NUMBER", x.number(0), number);
      e.fine(x, "one PART, the others are not looked at", x.built(0, 1, 0, MIN, MAX), f);
      e.fine(x, "two PARTS, the other is not looked at", x.built(0, 2, 0, 0, 77), g);
      e.fine(x, "three PARTS", x.built(0, 3, 0, 0, 0), h);
      e.fine(x, "a ROW", x.row(0, 0), row);
      e.fine(x, "an EVEN one", x.even(0, 0, 1), even);
      e.due("many(0)", x.many(0), 8);
      x.say(0, 1);
      x.say(f, number);
    }
    e.fine(x, "ONE is not alike: a NAME", x.name(1), 1);
    e.fine(x, "ONE is not alike: a BUILT one", x.built(0, 1, 1, 0, 0), 8);
  }

  private static void whatLooksAlikeIsApart() {
    e.about("Terms: 'KINDS'");
    EqualCourt x = Scenes.withNames(2);
    e.fine(x, "NUMBER 0 is not NAME 0", x.number(0), 2);
    e.fine(x, "NUMBER 90 is no NAME", x.number(90), 3);
    e.fine(x, "NAME 90 is no NUMBER", x.name(90), 4);
    e.fine(x, "two PARTS", x.built(0, 2, 0, 1, 0), 5);
    e.fine(x, "an EVEN one with the same HEAD", x.even(0, 0, 1), 6);
    e.fine(x, "a ROW", x.row(0, 1), 7);
    e.fine(x, "PARTS the other way round", x.built(0, 2, 1, 0, 0), 8);
    e.fine(x, "an EVEN one the other way round", x.even(0, 1, 0), 9);
    e.fine(x, "a ROW the other way round", x.row(1, 0), 10);
    e.fine(x, "one PART", x.built(0, 1, 0, 1, 0), 11);
    e.fine(x, "three PARTS", x.built(0, 3, 0, 1, 0), 12);
    e.fine(x, "another HEAD", x.built(1, 2, 0, 1, 0), 13);
    e.fine(x, "another HEAD of an EVEN one", x.even(1, 0, 1), 14);
    for (int t = 0; t < 15; t++) {
      boolean turned = t == 6 || t == 9;
      e.due("only the turned EVEN one is ONE with another: head(" + t + ")", x.head(t), turned ? 6 : t);
    }
  }

  private static void aNewObjectHasNothing() {
    e.about("promise 1: 'No TERMS, no SAYINGS, no LAWS, no STEPS, no levels'");
    EqualCourt x = new EqualCourt();
    for (int what = 0; what <= 6; what++) e.due("many(" + what + ")", x.many(what), 0);
    e.due("kind(0)", x.kind(0), NONE);
    e.due("said(0, 0)", x.said(0, 0), NONE);
    e.due("said(0, 3)", x.said(0, 3), NONE);
    e.due("judge(0, 0)", x.judge(0, 0), NONE);
    e.due("head(0)", x.head(0), NONE);
    e.due("member(0, 0)", x.member(0, 0), NONE);
    e.due("uses(0, 0)", x.uses(0, 0), NONE);
    e.due("world(0)", x.world(0), NO_WORLD);
    e.due("check(0, 0)", x.check(0, 0), 0);
    e.due("status()", x.status(), 0);
    e.refused(x, "part(0, 0)", x.part(0, 0), BEYOND);
    e.refused(x, "shows(0)", x.shows(0), BEYOND);
    e.refused(x, "say(0, 0)", x.say(0, 0), BEYOND);
    e.refused(x, "unlike(0, 0)", x.unlike(0, 0), BEYOND);
    e.refused(x, "drop(0)", x.drop(0), BEYOND);
    e.refused(x, "why(0, 0)", x.why(0, 0), BEYOND);
    e.refused(x, "least(0, 0, 1)", x.least(0, 0, 1), BEYOND);
    e.refused(x, "law(0, 0)", x.law(0, 0), BEYOND);
    e.refused(x, "instance(0, 0, 0, 0)", x.instance(0, 0, 0, 0), BEYOND);
    e.refused(x, "follow(0, 1)", x.follow(0, 1), BEYOND);
    e.refused(x, "claim(1, 0, 0, 0, 0)", x.claim(1, 0, 0, 0, 0), BEYOND);
    e.refused(x, "pop()", x.pop(), MISSING);
    e.fine(x, "unclaim()", x.unclaim(), 0);
    for (int what = 0; what <= 6; what++) e.due("many(" + what + ") still", x.many(what), 0);
    e.fine(x, "push()", x.push(), 1);
    e.fine(x, "pop()", x.pop(), 0);
  }

  private static void aNewObjectToldNothing() {
    e.about("promise 1: 'nothing was told yet'");
    EqualCourt x = new EqualCourt();
    e.due("status()", x.status(), 0);
    e.due("ended()", x.ended(), NONE);
    for (int i : new int[] {MIN, -1, 0, 1, 99, 100, MAX}) {
      e.due("clashed(" + i + ")", x.clashed(i), NONE);
      e.due("because(" + i + ")", x.because(i), NONE);
    }
  }

  private static void objectsAreApart() {
    e.about("promise 1: a new object beside one that is full");
    EqualCourt x = Scenes.full();
    EqualCourt y = new EqualCourt();
    for (int what = 0; what <= 6; what++) e.due("many(" + what + ")", y.many(what), 0);
    e.due("because(0)", y.because(0), NONE);
    e.due("clashed(0)", y.clashed(0), NONE);
    e.due("ended()", y.ended(), NONE);
    e.fine(y, "name(7)", y.name(7), 0);
    e.due("the full one stays", x.many(0), 120);
    e.due("the full one stays", x.kind(0), 0);
    e.due("the full one stays", x.part(91, 0), 90);
  }

  private static void namesAre0To99() {
    e.about("promise 2: 'BEYOND: n is not 0 to 99'");
    EqualCourt x = new EqualCourt();
    e.refused(x, "name(-1)", x.name(-1), BEYOND);
    e.fine(x, "name(0)", x.name(0), 0);
    e.fine(x, "name(1)", x.name(1), 1);
    e.fine(x, "name(98)", x.name(98), 2);
    e.fine(x, "name(99)", x.name(99), 3);
    e.refused(x, "name(100)", x.name(100), BEYOND);
    e.refused(x, "name(MIN)", x.name(MIN), BEYOND);
    e.refused(x, "name(MAX)", x.name(MAX), BEYOND);
    e.due("many(0)", x.many(0), 4);
    EqualCourt all = new EqualCourt();
    for (int n = 99; n >= 0; n--) e.fine(all, "name(" + n + ")", all.name(n), 99 - n);
    e.due("all hundred are there", all.many(0), 100);
  }

  private static void fullOfTermsForNames() {
    e.about("promise 2: 'FULL: there are 120 TERMS (and it isn't one of them)'");
    EqualCourt x = Scenes.withTerms(119);
    e.fine(x, "the 120th", x.name(95), 119);
    e.refused(x, "the 121st", x.name(96), FULL);
    e.fine(x, "the 120th again", x.name(95), 119);
    e.fine(x, "the first again", x.name(0), 0);
    e.refused(x, "BEYOND is looked for ahead of FULL", x.name(100), BEYOND);
    e.refused(x, "BEYOND is looked for ahead of FULL", x.name(-1), BEYOND);
    e.due("many(0)", x.many(0), 120);
  }

  private static void numbersAreInts() {
    e.about("promise 3: 'a NUMBER' is an int");
    EqualCourt x = new EqualCourt();
    int[] all = {MIN, MAX, 0, -1, 1, MIN + 1, MAX - 1, 119, 120};
    for (int i = 0; i < all.length; i++) e.fine(x, "number(" + all[i] + ")", x.number(all[i]), i);
    for (int i = 0; i < all.length; i++) e.fine(x, "number(" + all[i] + ") again", x.number(all[i]), i);
    for (int i = 0; i < all.length; i++) e.fine(x, "shows(" + i + ")", x.shows(i), all[i]);
    for (int i = 0; i < all.length; i++) e.due("world(" + i + ")", x.world(i), all[i]);
  }

  private static void fullOfTermsForNumbers() {
    e.about("promise 3: 'FULL likewise'");
    EqualCourt x = Scenes.withTerms(119);
    e.fine(x, "the 120th", x.number(MIN), 119);
    e.refused(x, "the 121st", x.number(MAX), FULL);
    e.fine(x, "the 120th again", x.number(MIN), 119);
    e.fine(x, "one of them again", x.number(1000), 90);
    e.due("many(0)", x.many(0), 120);
  }

  private static void headsOfBuiltOnesAre0To19() {
    e.about("promise 4: 'BEYOND: head is not 0 to 19'");
    EqualCourt x = Scenes.withNames(1);
    e.refused(x, "HEAD -1", x.built(-1, 1, 0, 0, 0), BEYOND);
    e.fine(x, "HEAD 0", x.built(0, 1, 0, 0, 0), 1);
    e.fine(x, "HEAD 19", x.built(19, 1, 0, 0, 0), 2);
    e.refused(x, "HEAD 20", x.built(20, 1, 0, 0, 0), BEYOND);
    e.refused(x, "HEAD MIN", x.built(MIN, 1, 0, 0, 0), BEYOND);
    e.refused(x, "HEAD MAX", x.built(MAX, 1, 0, 0, 0), BEYOND);
    e.refused(x, "HEAD ahead of NEGATIVE", x.built(20, -1, 0, 0, 0), BEYOND);
    e.refused(x, "HEAD ahead of NEGATIVE", x.built(-1, -1, 0, 0, 0), BEYOND);
    e.due("many(0)", x.many(0), 3);
  }

  private static void negativeMany() {
    e.about("promise 4: 'NEGATIVE: n is below 0'");
    EqualCourt x = Scenes.withNames(1);
    e.refused(x, "n -1", x.built(0, -1, 0, 0, 0), NEGATIVE);
    e.refused(x, "n MIN", x.built(0, MIN, 0, 0, 0), NEGATIVE);
    e.refused(x, "n 0 is not below 0", x.built(0, 0, 0, 0, 0), BEYOND);
    e.refused(x, "NEGATIVE ahead of BEYOND", x.built(0, -1, -1, 77, MIN), NEGATIVE);
    EqualCourt none = new EqualCourt();
    e.refused(none, "NEGATIVE, and no TERM is there", none.built(0, -1, 0, 0, 0), NEGATIVE);
    EqualCourt full = Scenes.withTerms(120);
    e.refused(full, "NEGATIVE ahead of FULL", full.built(0, -1, 0, 0, 0), NEGATIVE);
  }

  private static void oneToThreeParts() {
    e.about("promise 4: 'BEYOND: n is not 1 to 3'");
    EqualCourt x = Scenes.withNames(1);
    e.refused(x, "n 0", x.built(0, 0, 0, 0, 0), BEYOND);
    e.fine(x, "n 1", x.built(0, 1, 0, 0, 0), 1);
    e.fine(x, "n 2", x.built(0, 2, 0, 0, 0), 2);
    e.fine(x, "n 3", x.built(0, 3, 0, 0, 0), 3);
    e.refused(x, "n 4", x.built(0, 4, 0, 0, 0), BEYOND);
    e.refused(x, "n MAX", x.built(0, MAX, 0, 0, 0), BEYOND);
    e.due("many(0)", x.many(0), 4);
    for (int n = 1; n <= 3; n++) {
      e.fine(x, "the last of " + n + " PARTS", x.part(n, n - 1), 0);
      e.refused(x, "none behind the last of " + n, x.part(n, n), BEYOND);
    }
  }

  private static void partsOfBuiltOnesAreTerms() {
    e.about("promise 4: 'BEYOND: .. one of these PARTS is no TERM'");
    EqualCourt x = Scenes.withNames(3);
    for (int wrong : new int[] {-1, 3, 119, 120, MIN, MAX}) {
      e.refused(x, "first of 1 is " + wrong, x.built(0, 1, wrong, 0, 0), BEYOND);
      e.refused(x, "first of 2 is " + wrong, x.built(0, 2, wrong, 0, 0), BEYOND);
      e.refused(x, "second of 2 is " + wrong, x.built(0, 2, 0, wrong, 0), BEYOND);
      e.refused(x, "first of 3 is " + wrong, x.built(0, 3, wrong, 0, 0), BEYOND);
      e.refused(x, "second of 3 is " + wrong, x.built(0, 3, 0, wrong, 0), BEYOND);
      e.refused(x, "third of 3 is " + wrong, x.built(0, 3, 0, 0, wrong), BEYOND);
    }
    e.fine(x, "the last TERM as all PARTS", x.built(0, 3, 2, 2, 2), 3);
    e.fine(x, "only the first n of a, b, c: one", x.built(0, 1, 0, -1, MAX), 4);
    e.fine(x, "only the first n of a, b, c: two", x.built(0, 2, 0, 1, MIN), 5);
    e.refused(x, "it isn't a TERM ahead of itself", x.built(0, 1, 6, 0, 0), BEYOND);
    e.due("many(0)", x.many(0), 6);
  }

  private static void fullOfTermsForBuiltOnes() {
    e.about("promise 4: 'FULL likewise'");
    EqualCourt x = Scenes.withTerms(119);
    e.fine(x, "the 120th", x.built(5, 2, 0, 118, 0), 119);
    e.refused(x, "the 121st", x.built(5, 2, 118, 0, 0), FULL);
    e.refused(x, "the 121st, of the last", x.built(5, 1, 119, 0, 0), FULL);
    e.fine(x, "the 120th again, another c", x.built(5, 2, 0, 118, 99), 119);
    e.refused(x, "PARTS ahead of FULL", x.built(5, 1, 120, 0, 0), BEYOND);
    e.refused(x, "n ahead of FULL", x.built(5, 4, 0, 0, 0), BEYOND);
    e.refused(x, "n 0 ahead of FULL", x.built(5, 0, 0, 0, 0), BEYOND);
    e.refused(x, "HEAD ahead of FULL", x.built(20, 1, 0, 0, 0), BEYOND);
    e.due("many(0)", x.many(0), 120);
  }

  private static void partsOfRowsAreTerms() {
    e.about("promise 5: 'BEYOND: first or rest is no TERM'");
    EqualCourt x = Scenes.withNames(2);
    for (int wrong : new int[] {-1, 2, 119, 120, MIN, MAX}) {
      e.refused(x, "first is " + wrong, x.row(wrong, 0), BEYOND);
      e.refused(x, "rest is " + wrong, x.row(0, wrong), BEYOND);
    }
    e.fine(x, "the first and the last TERM", x.row(0, 1), 2);
    e.fine(x, "the last TERM twice", x.row(2, 2), 3);
    e.fine(x, "FIRST is PART 0", x.part(2, 0), 0);
    e.fine(x, "REST is PART 1", x.part(2, 1), 1);
  }

  private static void fullOfTermsForRows() {
    e.about("promise 5: 'FULL likewise'");
    EqualCourt x = Scenes.withTerms(119);
    e.fine(x, "the 120th", x.row(118, 118), 119);
    e.refused(x, "the 121st", x.row(119, 0), FULL);
    e.fine(x, "the 120th again", x.row(118, 118), 119);
    e.refused(x, "BEYOND ahead of FULL", x.row(120, 0), BEYOND);
    e.refused(x, "BEYOND ahead of FULL", x.row(0, -1), BEYOND);
    e.due("many(0)", x.many(0), 120);
  }

  private static void headsAndPartsOfEvenOnes() {
    e.about("promise 6: 'BEYOND: head is not 0 to 19, or a or b is no TERM'");
    EqualCourt x = Scenes.withNames(2);
    for (int wrong : new int[] {-1, 20, MIN, MAX}) e.refused(x, "HEAD " + wrong, x.even(wrong, 0, 0), BEYOND);
    for (int wrong : new int[] {-1, 2, 119, 120, MIN, MAX}) {
      e.refused(x, "a is " + wrong, x.even(0, wrong, 0), BEYOND);
      e.refused(x, "b is " + wrong, x.even(0, 0, wrong), BEYOND);
    }
    e.fine(x, "HEAD 0", x.even(0, 0, 1), 2);
    e.fine(x, "HEAD 19", x.even(19, 2, 2), 3);
    e.fine(x, "PART 0", x.part(2, 0), 0);
    e.fine(x, "PART 1", x.part(2, 1), 1);
  }

  private static void fullOfTermsForEvenOnes() {
    e.about("promise 6: 'FULL likewise'");
    EqualCourt x = Scenes.withTerms(119);
    e.fine(x, "the 120th", x.even(19, 0, 118), 119);
    e.refused(x, "the 121st: turned it is another", x.even(19, 118, 0), FULL);
    e.fine(x, "the 120th again", x.even(19, 0, 118), 119);
    e.refused(x, "HEAD ahead of FULL", x.even(20, 0, 0), BEYOND);
    e.refused(x, "a ahead of FULL", x.even(0, 120, 0), BEYOND);
    e.refused(x, "b ahead of FULL", x.even(0, 0, -1), BEYOND);
    e.due("many(0)", x.many(0), 120);
  }

  private static void kindOfNoTerm() {
    e.about("promise 7: 'NONE if there is none such'");
    EqualCourt x = Scenes.withNames(1);
    for (int t : new int[] {-1, 1, 119, 120, MIN, MAX}) e.due("kind(" + t + ")", x.kind(t), NONE);
    e.due("kind(0)", x.kind(0), 0);
    e.due("kind of a NUMBER", x.kind(x.number(0)), 1);
    e.due("kind of a BUILT one", x.kind(x.built(0, 1, 0, 0, 0)), 2);
    e.due("kind of a ROW", x.kind(x.row(0, 0)), 3);
    e.due("kind of an EVEN one", x.kind(x.even(0, 0, 0)), 4);
    EqualCourt full = Scenes.withTerms(120);
    e.due("kind(119)", full.kind(119), 1);
    e.due("kind(120)", full.kind(120), NONE);
  }

  private static void partsOfNoTerm() {
    e.about("promise 8: 'BEYOND: there is no such TERM'");
    EqualCourt x = Scenes.withNames(1);
    x.row(0, 0);
    for (int t : new int[] {-1, 2, 119, 120, MIN, MAX}) {
      e.refused(x, "part(" + t + ", 0)", x.part(t, 0), BEYOND);
      e.refused(x, "part(" + t + ", -1)", x.part(t, -1), BEYOND);
    }
    e.fine(x, "part(1, 0)", x.part(1, 0), 0);
  }

  private static void partsOfNamesAndNumbers() {
    e.about("promise 8: 'KIND: it is a NAME or a NUMBER'");
    EqualCourt x = Scenes.withNames(1);
    x.number(0);
    for (int t = 0; t < 2; t++) {
      for (int i : new int[] {0, 1, 2, 3, -1, MIN, MAX}) {
        e.refused(x, "KIND is ahead of BEYOND: part(" + t + ", " + i + ")", x.part(t, i), KIND);
      }
    }
    int[] more = {x.built(0, 1, 0, 0, 0), x.row(0, 0), x.even(0, 0, 0)};
    for (int t : more) e.fine(x, "part(" + t + ", 0)", x.part(t, 0), 0);
  }

  private static void partsThatItHasNot() {
    e.about("promise 8: 'BEYOND: it has no PART i'");
    EqualCourt x = Scenes.withNames(3);
    int f = x.built(0, 1, 2, 1, 0), g = x.built(0, 2, 1, 2, 0), h = x.built(0, 3, 2, 0, 1);
    int[] terms = {f, g, h, x.row(1, 0), x.even(0, 2, 1)};
    int[][] parts = {{2}, {1, 2}, {2, 0, 1}, {1, 0}, {2, 1}};
    for (int k = 0; k < terms.length; k++) {
      int many = parts[k].length;
      for (int i = 0; i < many; i++) e.fine(x, "part(" + terms[k] + ", " + i + ")", x.part(terms[k], i), parts[k][i]);
      for (int i : new int[] {-1, many, many + 1, 4, MIN, MAX}) {
        e.refused(x, "part(" + terms[k] + ", " + i + ")", x.part(terms[k], i), BEYOND);
      }
    }
  }

  private static void whatIsShown() {
    e.about("promise 9: 'the NAME's, or the NUMBER's own number, the HEAD of BUILT and EVEN ones'");
    EqualCourt x = new EqualCourt();
    e.fine(x, "NAME 0", x.shows(x.name(0)), 0);
    e.fine(x, "NAME 99", x.shows(x.name(99)), 99);
    e.fine(x, "NUMBER -1, which is no refusal", x.shows(x.number(-1)), -1);
    e.fine(x, "NUMBER MIN", x.shows(x.number(MIN)), MIN);
    e.fine(x, "NUMBER MAX", x.shows(x.number(MAX)), MAX);
    e.fine(x, "HEAD 0", x.shows(x.built(0, 1, 0, 0, 0)), 0);
    e.fine(x, "HEAD 19", x.shows(x.built(19, 3, 0, 0, 0)), 19);
    e.fine(x, "HEAD 0, EVEN", x.shows(x.even(0, 0, 0)), 0);
    e.fine(x, "HEAD 19, EVEN", x.shows(x.even(19, 0, 0)), 19);
  }

  private static void whatIsNotShown() {
    e.about("promise 9: 'BEYOND: there is no such TERM; KIND: it is a ROW'");
    EqualCourt x = Scenes.withNames(1);
    e.fine(x, "shows(0)", x.shows(0), 0);
    for (int t : new int[] {-1, 1, 119, 120, MIN, MAX}) e.refused(x, "shows(" + t + ")", x.shows(t), BEYOND);
    e.refused(x, "a ROW", x.shows(x.row(0, 0)), KIND);
  }

  private static void howManyOfWhat() {
    e.about("promise 10: 'NONE for another what'");
    EqualCourt x = Scenes.full();
    int[] most = {120, 100, 100, 10, 100, 10};
    for (int what = 0; what < 6; what++) e.due("many(" + what + ") when full", x.many(what), most[what]);
    // 51 NAMES are ONE by the chain of 50 SAYINGS.
    e.due("many(6) when full", x.many(6), 70);
    for (int what : new int[] {-1, 7, 8, MIN, MAX}) e.due("many(" + what + ")", x.many(what), NONE);
    x.drop(0);
    e.due("SAYINGS that are GONE are SAYINGS", x.many(1), 100);
    e.due("SAYINGS TAKEN", x.many(2), 99);
    e.due("CLASSES", x.many(6), 71);
  }

  private static void classesAreCounted() {
    e.about("promise 10: 'CLASSES (6)'");
    EqualCourt x = Scenes.tower(120);
    e.due("each TERM is one", x.many(6), 120);
    x.say(0, 1);
    e.due("all TERMS are one", x.many(6), 1);
    x.drop(0);
    e.due("each TERM is one again", x.many(6), 120);
  }

  private static void the512thCallIsAnswered() {
    e.about("'An object is used for at most 512 calls'");
    EqualCourt x = Scenes.withTerms(120);
    for (int call = 120; call < 510; call++) e.due("call " + (call + 1), x.name(call % 90), call % 90);
    e.fine(x, "calls 511 and 512", x.say(0, 119), 0);
  }

  public static void main(String[] args) {
    termsAreNumbered0To119();
    whatIsAskedForAgainIsThere();
    whatLooksAlikeIsApart();
    aNewObjectHasNothing();
    aNewObjectToldNothing();
    objectsAreApart();
    namesAre0To99();
    fullOfTermsForNames();
    numbersAreInts();
    fullOfTermsForNumbers();
    headsOfBuiltOnesAre0To19();
    negativeMany();
    oneToThreeParts();
    partsOfBuiltOnesAreTerms();
    fullOfTermsForBuiltOnes();
    partsOfRowsAreTerms();
    fullOfTermsForRows();
    headsAndPartsOfEvenOnes();
    fullOfTermsForEvenOnes();
    kindOfNoTerm();
    partsOfNoTerm();
    partsOfNamesAndNumbers();
    partsThatItHasNot();
    whatIsShown();
    whatIsNotShown();
    howManyOfWhat();
    classesAreCounted();
    the512thCallIsAnswered();
    e.end();
  }
}
