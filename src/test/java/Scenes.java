/** Objects that the tests begin with; each takes so few calls that 150 more stay within the 512 that are promised. */
final class Scenes {
  private Scenes() {}

  /** TERMS 0 to n - 1 are NAMES 0 to n - 1. */
  static EqualCourt withNames(int n) {
    EqualCourt x = new EqualCourt();
    for (int i = 0; i < n; i++) x.name(i);
    return x;
  }

  /** n TERMS and no HOLE: NAMES 0 to 89, behind them NUMBERS from 1000 on. */
  static EqualCourt withTerms(int n) {
    EqualCourt x = withNames(Math.min(n, 90));
    for (int i = 90; i < n; i++) x.number(910 + i);
    return x;
  }

  /** n TERMS: NAME 0, the BUILT one of it with HEAD 0, the BUILT one of that, and so on. */
  static EqualCourt tower(int n) {
    EqualCourt x = withNames(1);
    for (int i = 1; i < n; i++) x.built(0, 1, i - 1, 0, 0);
    return x;
  }

  /** At most 110 TERMS, and SAYINGS that each is the same as the one behind it, none of which can be spared. */
  static EqualCourt chain(int n) {
    EqualCourt x = withTerms(Math.min(n, 90));
    for (int i = 90; i < n; i++) x.built(i - 90, 1, 0, 0, 0);
    for (int i = 0; i + 1 < n; i++) x.say(i, i + 1);
    return x;
  }

  /** The LAW that f(90) is 90, on TERMS 1 and 0, and behind them NAMES 0 to n - 1. */
  static EqualCourt lawful(int n) {
    EqualCourt x = new EqualCourt();
    int hole = x.name(90);
    x.law(x.built(0, 1, hole, 0, 0), hole);
    for (int i = 0; i < n; i++) x.name(i);
    return x;
  }

  /** A little of all: each KIND, SAYINGS SAME, UNLIKE and GONE, two levels, two LAWS, three STEPS, all told once. */
  static EqualCourt busy() {
    EqualCourt x = withNames(3);
    x.number(5); // 3
    x.number(6); // 4
    x.name(90); // 5
    x.built(0, 1, 5, 0, 0); // 6
    x.built(0, 1, 0, 0, 0); // 7
    x.built(0, 1, 1, 0, 0); // 8
    x.row(0, 1); // 9
    x.row(2, 3); // 10
    x.even(3, 0, 2); // 11
    x.even(3, 2, 1); // 12
    x.built(1, 3, 0, 1, 2); // 13
    x.law(6, 5);
    x.law(13, 9);
    x.say(0, 1); // 0
    x.unlike(0, 2); // 1
    x.say(2, 2); // 2
    x.drop(2);
    x.push();
    x.say(8, 3); // 3
    x.follow(0, 1); // 4: f(0) is 0; it ends as 1
    x.push();
    x.drop(0);
    x.say(4, 11); // 5
    x.why(8, 3);
    x.say(4, 8); // refused: CLASH with 3
    x.claim(1, 0, 0, 0, 0);
    x.claim(0, 8, 3, 3, 0);
    x.claim(2, 3, 8, 1, 0);
    return x;
  }

  /**
   * busy(), and then each ACT of which something is remembered once more, in this order or the other way: each two of
   * them come in both orders, so that what one of them would spoil of the other's is seen.
   */
  static EqualCourt told(boolean forth) {
    EqualCourt x = busy();
    for (int k = 0; k < 8; k++) tellOnce(x, forth ? k : 7 - k, forth);
    return x;
  }

  private static void tellOnce(EqualCourt x, int what, boolean right) {
    switch (what) {
      case 0: x.least(8, 3, 500); break;
      case 1: x.why(8, 3); break;
      case 2: x.say(4, 8); break; // refused: CLASH with 3
      case 3: x.unlike(8, 3); break; // refused: CLASH with 3
      case 4: x.follow(0, 1); break; // 6: f(1) is 1; it ends as 1
      case 5: x.claim(right ? 1 : 7, 2, 2, 0, 0); break;
      case 6: x.law(0, 0); break;
      default: x.push();
    }
  }

  /** busy() without its levels, with all told once. */
  static EqualCourt level() {
    EqualCourt x = busy();
    x.pop();
    x.pop();
    x.follow(0, 1); // 6: f(0) is 0; it ends as 1
    x.why(0, 1);
    x.say(1, 2); // refused: CLASH with 0 and 1
    return x;
  }

  /** A LAW that was followed, and then nothing that could be gone over, with all told once. */
  static EqualCourt holesAlone() {
    EqualCourt x = new EqualCourt();
    x.law(x.name(90), x.name(91));
    x.name(3); // 2
    x.follow(0, 1);
    x.claim(1, 0, 0, 0, 0);
    x.say(0, 2);
    x.why(2, 0);
    x.unlike(0, 2); // refused: CLASH with 0
    return x;
  }

  /** 120 TERMS, 100 SAYINGS, 10 LAWS, 100 STEPS and 10 levels. */
  static EqualCourt full() {
    return full(10);
  }

  /** full(), but with so many levels of at most ten. */
  static EqualCourt full(int levels) {
    EqualCourt x = withNames(91);
    x.built(0, 1, 90, 0, 0); // 91
    x.row(0, 1); // 92
    for (int i = 93; i < 119; i++) x.number(i);
    x.even(0, 0, 1); // 119
    for (int i = 0; i < 10; i++) x.law(91, 90);
    for (int i = 0; i < 50; i++) {
      x.say(i, i + 1);
      if (i % 5 == 0 && i / 5 < levels) x.push();
      x.unlike(i, 60 + i % 30);
      if (i == 40) x.unlike(39, 41); // refused: CLASH with two
    }
    for (int i = 0; i < 100; i++) x.claim(1, i, i, 0, 0);
    x.why(3, 5);
    x.follow(0, 50);
    return x;
  }
}
