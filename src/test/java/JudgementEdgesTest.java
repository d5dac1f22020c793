/** The boundary cases that the document names in promises 16 to 23, sentence by sentence. */
public final class JudgementEdgesTest {
  private static final int BEYOND = 1, OPEN = 6, SPENT = 7;
  private static final int MIN = Integer.MIN_VALUE, MAX = Integer.MAX_VALUE;
  private static final int NONE = EqualCourt.NONE;
  private static final long NO_WORLD = 1099511627776L;
  private static final Expect e = new Expect();

  private static void tells(EqualCourt x, String text, int... want) {
    for (int i = 0; i < want.length; i++) e.due(text + ": because(" + i + ")", x.because(i), want[i]);
    for (int i : new int[] {-1, want.length, want.length + 1, 99, 100, MIN, MAX}) {
      if (i < 0 || i >= want.length) e.due(text + ": because(" + i + ")", x.because(i), NONE);
    }
  }

  private static void judgedOne() {
    e.about("promise 16: '1 if a and b are ONE'");
    EqualCourt x = Scenes.withTerms(120);
    e.due("the last TERM and itself", x.judge(119, 119), 1);
    e.due("a NUMBER and itself", x.judge(90, 90), 1);
    x.say(0, 119);
    e.due("judge(0, 119)", x.judge(0, 119), 1);
    e.due("judge(119, 0)", x.judge(119, 0), 1);
  }

  private static void judgedUnlike() {
    e.about("promise 16: '0 if they are not, and COURT with a SAYING that they are the same CLASHES'");
    EqualCourt x = Scenes.withNames(4);
    int min = x.number(MIN), max = x.number(MAX);
    e.due("two NUMBERS, by no SAYING", x.judge(min, max), 0);
    x.unlike(0, 1);
    e.due("UNLIKE", x.judge(0, 1), 0);
    e.due("UNLIKE, the other way", x.judge(1, 0), 0);
    x.say(0, 2);
    x.say(1, 3);
    e.due("by others", x.judge(3, 2), 0);
    int f = x.built(0, 1, 2, 0, 0), g = x.built(0, 1, 3, 0, 0);
    e.due("what is built of them is open", x.judge(f, g), 2);
    int r = x.row(2, 0), q = x.row(3, 0);
    e.due("ROWS of them are not", x.judge(r, q), 0);
    x.drop(0);
    e.due("ROWS are open too", x.judge(r, q), 2);
    x.unlike(f, g);
    e.due("by what is built of them", x.judge(0, 1), 0);
    e.due("nothing came", x.many(1), 4);
  }

  private static void judgedOpen() {
    e.about("promise 16: '2 else; NONE if one is no TERM'");
    EqualCourt x = Scenes.withNames(2);
    e.due("by no SAYING", x.judge(0, 1), 2);
    for (int wrong : new int[] {-1, 2, 119, 120, MIN, MAX}) {
      e.due("judge(" + wrong + ", 0)", x.judge(wrong, 0), NONE);
      e.due("judge(0, " + wrong + ")", x.judge(0, wrong), NONE);
      e.due("judge twice " + wrong, x.judge(wrong, wrong), NONE);
    }
    EqualCourt full = Scenes.withTerms(120);
    e.due("judge(119, 0)", full.judge(119, 0), 2);
    e.due("judge(120, 0)", full.judge(120, 0), NONE);
  }

  private static void whyOfNoTerm() {
    e.about("promise 17: 'BEYOND: one is no TERM'");
    EqualCourt x = Scenes.withNames(2);
    for (int wrong : new int[] {-1, 2, 119, 120, MIN, MAX}) {
      e.refused(x, "why(" + wrong + ", 0)", x.why(wrong, 0), BEYOND);
      e.refused(x, "why(0, " + wrong + ")", x.why(0, wrong), BEYOND);
      e.refused(x, "why twice " + wrong, x.why(wrong, wrong), BEYOND);
    }
    e.fine(x, "the last TERM", x.why(1, 1), 0);
  }

  private static void whyOfWhatIsOpen() {
    e.about("promise 17: 'OPEN: judge() is 2'");
    EqualCourt x = Scenes.withNames(3);
    e.refused(x, "by no SAYING", x.why(0, 1), OPEN);
    x.say(0, 1);
    e.fine(x, "why(0, 1)", x.why(0, 1), 1);
    e.refused(x, "why(0, 2)", x.why(0, 2), OPEN);
    tells(x, "what was told stays", 0);
    x.drop(0);
    e.refused(x, "why(0, 1)", x.why(0, 1), OPEN);
    tells(x, "what was told stays", 0);
  }

  private static void whyByNoSaying() {
    e.about("promise 17: an empty CORE");
    EqualCourt x = Scenes.withNames(3);
    x.say(0, 1);
    x.why(0, 1);
    tells(x, "one", 0);
    e.fine(x, "itself", x.why(0, 0), 0);
    tells(x, "itself", new int[0]);
    x.why(0, 1);
    e.fine(x, "two NUMBERS", x.why(x.number(0), x.number(-1)), 0);
    tells(x, "two NUMBERS", new int[0]);
    x.why(0, 1);
    e.fine(x, "an EVEN one turned", x.why(x.even(0, 0, 2), x.even(0, 2, 0)), 0);
    tells(x, "an EVEN one turned", new int[0]);
  }

  private static void whyByAllSayings() {
    e.about("promise 17: a CORE of 100, if judge() is 1");
    EqualCourt x = Scenes.chain(101);
    e.fine(x, "why(0, 100)", x.why(0, 100), 100);
    for (int i = 0; i < 100; i++) e.due("because(" + i + ")", x.because(i), i);
    e.due("because(100)", x.because(100), NONE);
    e.due("because(-1)", x.because(-1), NONE);
    e.about("promise 17: a CORE of 100, if judge() is 0");
    EqualCourt y = Scenes.chain(100);
    y.number(7);
    y.unlike(100, 99);
    e.fine(y, "why(0, 100)", y.why(0, 100), 100);
    for (int i = 0; i < 100; i++) e.due("because(" + i + ")", y.because(i), i);
    e.due("because(100)", y.because(100), NONE);
  }

  private static void whyIsThinned() {
    e.about("promise 17: 'the SAYINGS of COURT, in order, are THINNED'");
    EqualCourt x = Scenes.withNames(4);
    x.say(0, 3);
    x.say(0, 1);
    x.say(1, 3);
    e.fine(x, "the first is left out", x.why(0, 3), 2);
    tells(x, "the first is left out", 1, 2);
    x.drop(1);
    e.fine(x, "what is GONE is not COURT's", x.why(0, 3), 1);
    tells(x, "what is GONE is not COURT's", 0);
    x.unlike(0, 2);
    x.unlike(3, 2);
    e.fine(x, "UNLIKE ones, judge() is 0", x.why(2, 3), 1);
    tells(x, "UNLIKE ones", 4);
    e.fine(x, "UNLIKE ones are left out, judge() is 1", x.why(0, 3), 1);
    tells(x, "UNLIKE ones are left out", 0);
    e.fine(x, "CLASHING together with it", x.why(1, 2), 2);
    tells(x, "CLASHING together with it", 2, 4);
  }

  private static void leastOfNoTerm() {
    e.about("promise 18: 'BEYOND: one is no TERM'");
    EqualCourt x = Scenes.withNames(2);
    for (int wrong : new int[] {-1, 2, 119, 120, MIN, MAX}) {
      e.refused(x, "least(" + wrong + ", 0, 1)", x.least(wrong, 0, 1), BEYOND);
      e.refused(x, "least(0, " + wrong + ", 1)", x.least(0, wrong, 1), BEYOND);
      e.refused(x, "least twice " + wrong, x.least(wrong, wrong, 500), BEYOND);
    }
    e.fine(x, "the last TERM", x.least(1, 1, 1), 0);
  }

  private static void oneTo500Trials() {
    e.about("promise 18: 'BEYOND: .. trials is not 1 to 500'");
    EqualCourt x = Scenes.withNames(3);
    x.say(0, 1);
    e.fine(x, "1 trial", x.least(0, 0, 1), 0);
    e.fine(x, "2 trials", x.least(0, 1, 2), 1);
    e.fine(x, "499 trials", x.least(0, 1, 499), 1);
    e.fine(x, "500 trials", x.least(0, 1, 500), 1);
    for (int wrong : new int[] {0, -1, 501, MIN, MAX}) {
      e.refused(x, "trials " + wrong + " for ONE", x.least(0, 1, wrong), BEYOND);
      e.refused(x, "trials " + wrong + " for itself", x.least(0, 0, wrong), BEYOND);
      e.refused(x, "trials " + wrong + ", ahead of OPEN", x.least(0, 2, wrong), BEYOND);
    }
    tells(x, "what was told stays", 0);
  }

  private static void leastOfWhatIsNotOne() {
    e.about("promise 18: 'OPEN: a and b are not ONE'");
    EqualCourt x = Scenes.withNames(3);
    e.refused(x, "by no SAYING, 1 trial: ahead of SPENT", x.least(0, 1, 1), OPEN);
    e.refused(x, "by no SAYING, 500 trials", x.least(0, 1, 500), OPEN);
    x.unlike(0, 1);
    e.refused(x, "judge() is 0", x.least(0, 1, 500), OPEN);
    e.refused(x, "two NUMBERS", x.least(x.number(0), x.number(1), 500), OPEN);
    x.say(0, 2);
    x.drop(1);
    e.refused(x, "GONE", x.least(0, 2, 500), OPEN);
  }

  private static void theEmptySetIsTheFirst() {
    e.about("promise 18: 'SPENT: none of the first so many sets (the empty one is the first) did'");
    EqualCourt x = Scenes.withNames(3);
    x.say(0, 1);
    x.say(1, 2);
    e.fine(x, "1 trial, itself", x.least(2, 2, 1), 0);
    tells(x, "itself", new int[0]);
    e.refused(x, "1 trial, by the first SAYING", x.least(0, 1, 1), SPENT);
    e.fine(x, "2 trials, by the first SAYING", x.least(0, 1, 2), 1);
    tells(x, "by the first SAYING", 0);
    e.refused(x, "2 trials, by the second SAYING", x.least(1, 2, 2), SPENT);
    tells(x, "a refused one tells nothing", 0);
    e.fine(x, "3 trials, by the second SAYING", x.least(1, 2, 3), 1);
    e.refused(x, "3 trials, by both", x.least(0, 2, 3), SPENT);
    e.fine(x, "4 trials, by both", x.least(0, 2, 4), 2);
    tells(x, "both", 0, 1);
  }

  /** 31 SAYINGS; 0, 1 and the one at that number make NAMES 0 and 3 ONE: 497 sets have two of them or fewer. */
  private static EqualCourt three(int last) {
    EqualCourt x = Scenes.withNames(7);
    for (int s = 0; s < 31; s++) {
      if (s == 0) x.say(0, 1);
      else if (s == 1) x.say(1, 2);
      else if (s == last) x.say(2, 3);
      else x.say(5, 6);
    }
    return x;
  }

  private static void the500thSet() {
    e.about("promise 18: the 500th set, and the 501st");
    EqualCourt x = three(2);
    e.refused(x, "the 498th of 497", x.least(0, 3, 497), SPENT);
    e.fine(x, "the 498th of 498", x.least(0, 3, 498), 3);
    tells(x, "the 498th", 0, 1, 2);
    EqualCourt y = three(4);
    e.refused(y, "the 500th of 499", y.least(0, 3, 499), SPENT);
    e.fine(y, "the 500th of 500", y.least(0, 3, 500), 3);
    tells(y, "the 500th", 0, 1, 4);
    EqualCourt z = three(5);
    e.refused(z, "the 501st of 500", z.least(0, 3, 500), SPENT);
    e.refused(z, "the 501st of 501", z.least(0, 3, 501), BEYOND);
    e.fine(z, "why() finds it", z.why(0, 3), 3);
    tells(z, "why()", 0, 1, 5);
  }

  private static void setsComeInOrder() {
    e.about("promise 18: 'those with fewer first, of as many those first that have the lesser SAYING'");
    EqualCourt x = Scenes.withNames(4);
    x.say(0, 1);
    x.say(1, 2);
    x.say(2, 3);
    x.say(1, 3);
    x.say(0, 3);
    e.fine(x, "one is fewer", x.least(0, 3, 500), 1);
    tells(x, "one is fewer", 4);
    // {0,1}, {0,2}, {0,3}, {0,4}: 0 and 2 are ONE by {0,1} first, by {2,4} too.
    e.fine(x, "the lesser first", x.least(0, 2, 500), 2);
    tells(x, "the lesser first", 0, 1);
    x.drop(0);
    e.fine(x, "of those that are left", x.least(0, 2, 500), 2);
    tells(x, "of those that are left", 2, 4);
    // {}, four ones, {1,2} {1,3} {1,4} {2,3} {2,4}: the 10th.
    e.refused(x, "the 10th of 9", x.least(0, 2, 9), SPENT);
    e.fine(x, "the 10th of 10", x.least(0, 2, 10), 2);
    EqualCourt y = Scenes.withNames(2);
    y.unlike(0, y.number(1));
    y.say(0, 1);
    e.refused(y, "an UNLIKE SAYING is one of COURT", y.least(0, 1, 2), SPENT);
    e.fine(y, "an UNLIKE SAYING is one of COURT", y.least(0, 1, 3), 1);
    tells(y, "an UNLIKE SAYING is one of COURT", 1);
  }

  private static void unlikeSayingsMakeNothingOne() {
    e.about("promises 17, 18: 'a and b are ONE by one' that has an UNLIKE SAYING");
    EqualCourt x = Scenes.withNames(4);
    int f = x.built(0, 1, 0, 0, 0), g = x.built(0, 1, 1, 0, 0);
    x.unlike(0, 1);
    x.say(f, 2);
    x.say(g, 2);
    // {}, {0}, {1}, {2}, {0,1}, {0,2}, {1,2}
    e.refused(x, "least(f, g, 6)", x.least(f, g, 6), SPENT);
    e.fine(x, "least(f, g, 7)", x.least(f, g, 7), 2);
    tells(x, "least()", 1, 2);
    e.fine(x, "why(f, g)", x.why(f, g), 2);
    tells(x, "why()", 1, 2);
  }

  private static void leastOfAHundred() {
    e.about("promise 18: 100 SAYINGS");
    EqualCourt x = Scenes.chain(101);
    e.refused(x, "by the last one, 100 trials", x.least(99, 100, 100), SPENT);
    e.fine(x, "by the last one, 101 trials", x.least(99, 100, 101), 1);
    tells(x, "by the last one", 99);
    e.refused(x, "by 0 and 1, 101 trials", x.least(0, 2, 101), SPENT);
    e.fine(x, "by 0 and 1, 102 trials", x.least(0, 2, 102), 2);
    e.refused(x, "by all", x.least(0, 100, 500), SPENT);
    tells(x, "by 0 and 1", 0, 1);
  }

  private static void becauseOfTheLatestThatWasDone() {
    e.about("promise 19: 'what the latest why() or least() that was done found'");
    EqualCourt x = Scenes.withNames(3);
    tells(x, "nothing yet", new int[0]);
    x.why(0, 1);
    tells(x, "nothing yet, one was refused", new int[0]);
    x.say(0, 1);
    x.say(1, 2);
    x.why(0, 2);
    tells(x, "why()", 0, 1);
    x.least(1, 2, 10);
    tells(x, "least()", 1);
    x.least(0, 2, 1);
    tells(x, "a least() that is SPENT", 1);
    x.least(0, 2, 501);
    x.why(0, 3);
    tells(x, "those that are BEYOND", 1);
    x.unlike(0, 2);
    tells(x, "one that CLASHES", 1);
    x.drop(1);
    tells(x, "the SAYING is GONE", 1);
    x.why(0, 0);
    tells(x, "an empty one", new int[0]);
  }

  private static void headOfAClass() {
    e.about("promise 20: 'NONE if there is no such TERM'");
    EqualCourt x = Scenes.tower(120);
    e.due("head(0)", x.head(0), 0);
    e.due("head(119)", x.head(119), 119);
    for (int t : new int[] {-1, 120, MIN, MAX}) e.due("head(" + t + ")", x.head(t), NONE);
    x.say(119, 118);
    e.due("its least", x.head(119), 118);
    e.due("its least", x.head(118), 118);
    x.say(1, 0);
    for (int t = 0; t < 120; t++) e.due("head(" + t + ") of all", x.head(t), 0);
    EqualCourt one = Scenes.withNames(1);
    e.due("head(1) of one", one.head(1), NONE);
  }

  private static void membersOfAClass() {
    e.about("promise 21: 'NONE if there is none such'");
    EqualCourt x = Scenes.tower(120);
    e.due("alone", x.member(119, 0), 119);
    e.due("alone, no second", x.member(119, 1), NONE);
    x.say(0, 1);
    for (int i = 0; i < 120; i++) e.due("member(7, " + i + ") of all", x.member(7, i), i);
    for (int i : new int[] {-1, 120, 121, MIN, MAX}) e.due("member(0, " + i + ")", x.member(0, i), NONE);
    for (int t : new int[] {-1, 120, MIN, MAX}) e.due("member(" + t + ", 0)", x.member(t, 0), NONE);
    EqualCourt y = Scenes.withNames(5);
    y.say(4, 1);
    e.due("by numbers", y.member(4, 0), 1);
    e.due("by numbers", y.member(4, 1), 4);
    e.due("no third", y.member(4, 2), NONE);
    e.due("member(5, 0)", y.member(5, 0), NONE);
  }

  private static void usesOfAClass() {
    e.about("promise 22: 'NONE if there is none such'");
    EqualCourt x = Scenes.tower(120);
    e.due("the only one", x.uses(118, 0), 119);
    e.due("no second", x.uses(118, 1), NONE);
    e.due("nothing is built of the last", x.uses(119, 0), NONE);
    x.say(0, 1);
    for (int i = 0; i < 119; i++) e.due("uses(5, " + i + ") of all", x.uses(5, i), i + 1);
    for (int i : new int[] {-1, 119, 120, MIN, MAX}) e.due("uses(0, " + i + ")", x.uses(0, i), NONE);
    for (int t : new int[] {-1, 120, MIN, MAX}) e.due("uses(" + t + ", 0)", x.uses(t, 0), NONE);
  }

  private static void usesAtAnyPlace() {
    e.about("promise 22: 'that has a TERM of t's CLASS as a PART'");
    EqualCourt x = Scenes.withNames(4);
    int first = x.built(0, 3, 0, 3, 3), second = x.built(0, 3, 3, 0, 3), third = x.built(0, 3, 3, 3, 0);
    int row = x.row(3, 0), even = x.even(0, 3, 0), twice = x.row(0, 0), of1 = x.row(1, 3);
    int deep = x.built(0, 1, first, 0, 0);
    int[] want = {first, second, third, row, even, twice};
    for (int i = 0; i < want.length; i++) e.due("uses(0, " + i + ")", x.uses(0, i), want[i]);
    e.due("one that has it twice is told once, a PART of a PART is none", x.uses(0, want.length), NONE);
    x.say(0, 1);
    e.due("of its CLASS", x.uses(0, want.length), of1);
    e.due("of its CLASS, the other", x.uses(1, 0), first);
    e.due("no more", x.uses(0, want.length + 1), NONE);
    e.due("uses(first, 0)", x.uses(first, 0), deep);
    e.due("uses(2, 0)", x.uses(2, 0), NONE);
  }

  private static void worldOfNoTerm() {
    e.about("promise 23: '2^40 if there is no such TERM'");
    EqualCourt x = Scenes.withNames(1);
    for (int t : new int[] {-1, 1, 119, 120, MIN, MAX}) e.due("world(" + t + ")", x.world(t), NO_WORLD);
    e.due("world(0)", x.world(0), 0);
    EqualCourt full = Scenes.tower(120);
    e.due("world(119)", full.world(119), 119);
    e.due("world(120)", full.world(120), NO_WORLD);
  }

  private static void worldOfNumbers() {
    e.about("promise 23: 'if a NUMBER is in its CLASS, that'");
    EqualCourt x = Scenes.withNames(3);
    int min = x.number(MIN), max = x.number(MAX), minus = x.number(-1);
    e.due("MIN", x.world(min), MIN);
    e.due("MAX", x.world(max), MAX);
    e.due("-1", x.world(minus), -1);
    x.say(0, min);
    x.say(1, max);
    x.say(2, minus);
    e.due("ONE with MIN", x.world(0), MIN);
    e.due("ONE with MAX", x.world(1), MAX);
    e.due("ONE with -1", x.world(2), -1);
    x.drop(2);
    e.due("no more", x.world(2), 0);
  }

  private static void worldOfTheRest() {
    e.about("promise 23: 'the k-th (from 0 on) of the ints from 0 on that no NUMBER among all TERMS is'");
    EqualCourt x = Scenes.withNames(4);
    for (int t = 0; t < 4; t++) e.due("no NUMBER: world(" + t + ")", x.world(t), t);
    x.number(-1);
    x.number(4);
    for (int t = 0; t < 4; t++) e.due("NUMBERS beyond: world(" + t + ")", x.world(t), t);
    int zero = x.number(0);
    for (int t = 0; t < 4; t++) e.due("0 is one, 4 is another: world(" + t + ")", x.world(t), t < 3 ? t + 1 : 5);
    x.say(1, zero);
    e.due("a CLASS with a NUMBER does not count", x.world(2), 2);
    e.due("a CLASS with a NUMBER does not count", x.world(3), 3);
    x.say(0, 3);
    e.due("a CLASS counts once, by its HEAD TERM", x.world(3), 1);
    e.due("a CLASS counts once, by its HEAD TERM", x.world(2), 2);
    EqualCourt y = new EqualCourt();
    for (int v = 0; v < 119; v++) y.number(v);
    e.due("119 NUMBERS are ahead", y.world(y.name(0)), 119);
    EqualCourt z = Scenes.withNames(60);
    for (int v = 59; v >= 0; v--) z.number(2 * v);
    e.due("every second int", z.world(59), 119);
    e.due("every second int", z.world(0), 1);
  }

  public static void main(String[] args) {
    judgedOne();
    judgedUnlike();
    judgedOpen();
    whyOfNoTerm();
    whyOfWhatIsOpen();
    whyByNoSaying();
    whyByAllSayings();
    whyIsThinned();
    leastOfNoTerm();
    oneTo500Trials();
    leastOfWhatIsNotOne();
    theEmptySetIsTheFirst();
    the500thSet();
    setsComeInOrder();
    unlikeSayingsMakeNothingOne();
    leastOfAHundred();
    becauseOfTheLatestThatWasDone();
    headOfAClass();
    membersOfAClass();
    usesOfAClass();
    usesAtAnyPlace();
    worldOfNoTerm();
    worldOfNumbers();
    worldOfTheRest();
    e.end();
  }
}
