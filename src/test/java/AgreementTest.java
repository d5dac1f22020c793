/** Long runs of calls, the same each time, on EqualCourt and on SlowCourt, which must agree in every answer. */
public final class AgreementTest {
  private static final int CALLS = 512;

  private final Expect expect;
  private long seed;
  private EqualCourt x;
  private SlowCourt y;
  private int[] odds;
  private int names;
  private int numbers;
  private int heads;

  private AgreementTest(Expect expect, long seed) {
    this.expect = expect;
    this.seed = seed;
  }

  private int below(int n) {
    seed = seed * 6364136223846793005L + 1442695040888963407L;
    return (int) ((seed >>> 33) % n);
  }

  private int oddInt() {
    int[] odd = {-1, 0, 1, 120, 119, 100, 99, 500, Integer.MIN_VALUE, Integer.MAX_VALUE, -2, 3, 10, x.many(0), x.many(1)};
    return odd[below(odd.length)];
  }

  private int term() {
    int n = x.many(0);
    if (n == 0 || below(60) == 0) return oddInt();
    return below(3) == 0 ? Math.max(0, n - 1 - below(6)) : below(n);
  }

  private int other(int t) {
    if (below(3) == 0) {
      int u = x.member(t, below(4));
      if (u != -1) return u;
    }
    return term();
  }

  private int saying() {
    int n = x.many(1);
    return n == 0 || below(30) == 0 ? oddInt() : below(n);
  }

  private int headNumber() {
    return below(60) == 0 ? (below(2) == 0 ? 20 : oddInt()) : below(10) == 0 ? 19 : below(heads);
  }

  private int nameNumber() {
    if (below(40) == 0) return oddInt();
    return below(3) == 0 ? 90 + below(4) - below(2) : below(names);
  }

  private void due(String call, long got, long want) {
    expect.due(call, got, want);
  }

  // What kinds of calls are how likely: terms, sayings, judgements, levels, laws, steps.
  private static final int[][] ODDS = {
    {40, 25, 25, 2, 0, 0},
    {20, 10, 15, 3, 12, 2},
    {25, 40, 20, 8, 1, 0},
    {15, 15, 8, 2, 2, 40},
    {70, 10, 8, 1, 5, 2},
    {6, 70, 20, 2, 1, 1},
  };

  void run(int profile, boolean small) {
    x = new EqualCourt();
    y = new SlowCourt();
    odds = ODDS[profile];
    names = small ? 3 : 5 + below(95);
    numbers = small ? 3 : 40;
    heads = small ? 1 + below(2) : 1 + below(19);
    int many = small ? 6 + below(18) : 20 + below(120);
    for (int i = 0; i < CALLS && expect.isClean(); i++) {
      call(i, many);
      due("status()", x.status(), y.status());
      if (i % 37 == 0 || i == CALLS - 1) compareAll();
    }
  }

  private void call(int i, int many) {
    int sum = 0;
    for (int o : odds) sum += o;
    int at = below(sum);
    int kind = 0;
    while (at >= odds[kind]) at -= odds[kind++];
    if (i < 4) kind = 0;
    if (kind == 0 && x.many(0) >= many && below(8) != 0) kind = 1 + below(2);
    switch (kind) {
      case 0: makeTerm(); break;
      case 1: aboutSayings(); break;
      case 2: aboutJudgements(); break;
      case 3: aboutLevels(); break;
      case 4: aboutLaws(); break;
      default: aboutSteps();
    }
  }

  private void makeTerm() {
    int a = term();
    int b = term();
    int c = term();
    int h = headNumber();
    switch (below(12)) {
      case 0:
      case 1: {
        int n = nameNumber();
        due("name(" + n + ")", x.name(n), y.name(n));
        break;
      }
      case 2: {
        int v = below(20) == 0 ? oddInt() : below(numbers);
        due("number(" + v + ")", x.number(v), y.number(v));
        break;
      }
      case 3:
      case 4:
      case 5:
      case 6: {
        int n = below(40) == 0 ? below(7) - 2 : 1 + below(3);
        due("built(" + h + ", " + n + ", " + a + ", " + b + ", " + c + ")", x.built(h, n, a, b, c), y.built(h, n, a, b, c));
        break;
      }
      case 7:
      case 8:
        due("row(" + a + ", " + b + ")", x.row(a, b), y.row(a, b));
        break;
      case 9:
      case 10:
        due("even(" + h + ", " + a + ", " + b + ")", x.even(h, a, b), y.even(h, a, b));
        break;
      default: {
        int i = below(6) - 1;
        due("part(" + a + ", " + i + ")", x.part(a, i), y.part(a, i));
        due("status()", x.status(), y.status());
        due("shows(" + b + ")", x.shows(b), y.shows(b));
        due("kind(" + c + ")", x.kind(c), y.kind(c));
      }
    }
  }

  private void aboutSayings() {
    int a = term();
    int b = other(a);
    switch (below(8)) {
      case 0:
      case 1:
      case 2:
      case 3:
        due("say(" + a + ", " + b + ")", x.say(a, b), y.say(a, b));
        break;
      case 4:
      case 5:
        due("unlike(" + a + ", " + b + ")", x.unlike(a, b), y.unlike(a, b));
        break;
      case 6: {
        int s = saying();
        due("drop(" + s + ")", x.drop(s), y.drop(s));
        break;
      }
      default: {
        int s = saying();
        int what = below(7) - 1;
        due("said(" + s + ", " + what + ")", x.said(s, what), y.said(s, what));
      }
    }
    if (x.status() == 4) compareCores();
  }

  private void aboutJudgements() {
    int a = term();
    int b = other(a);
    int i = below(20) == 0 ? oddInt() : below(8);
    switch (below(8)) {
      case 0:
      case 1:
        due("judge(" + a + ", " + b + ")", x.judge(a, b), y.judge(a, b));
        break;
      case 2:
      case 3:
        due("why(" + a + ", " + b + ")", x.why(a, b), y.why(a, b));
        compareCores();
        break;
      case 4: {
        int n = below(4) == 0 ? oddInt() : 1 + below(below(2) == 0 ? 20 : 500);
        due("least(" + a + ", " + b + ", " + n + ")", x.least(a, b, n), y.least(a, b, n));
        compareCores();
        break;
      }
      case 5:
        due("head(" + a + ")", x.head(a), y.head(a));
        due("world(" + b + ")", x.world(b), y.world(b));
        break;
      case 6:
        due("member(" + a + ", " + i + ")", x.member(a, i), y.member(a, i));
        break;
      default:
        due("uses(" + a + ", " + i + ")", x.uses(a, i), y.uses(a, i));
    }
  }

  private void aboutLevels() {
    if (below(2) == 0) due("push()", x.push(), y.push());
    else due("pop()", x.pop(), y.pop());
  }

  private void aboutLaws() {
    int a = term();
    int b = term();
    switch (below(4)) {
      case 0:
        due("law(" + a + ", " + b + ")", x.law(a, b), y.law(a, b));
        break;
      case 1: {
        int c = term();
        int t = term();
        due("instance(" + t + ", " + a + ", " + b + ", " + c + ")", x.instance(t, a, b, c), y.instance(t, a, b, c));
        break;
      }
      default: {
        int l = x.many(3) == 0 || below(20) == 0 ? oddInt() : below(x.many(3));
        int n = below(20) == 0 ? oddInt() : 1 + below(below(2) == 0 ? 5 : 50);
        due("follow(" + l + ", " + n + ")", x.follow(l, n), y.follow(l, n));
        due("ended()", x.ended(), y.ended());
        compareCores();
      }
    }
  }

  // What was claimed, so that right STEPS can be found and kept: {reason, a, b, i, j}.
  private final java.util.List<int[]> claims = new java.util.ArrayList<>();

  private void aboutSteps() {
    if (below(60) == 0) {
      due("unclaim()", x.unclaim(), y.unclaim());
      claims.clear();
      return;
    }
    int[] s = likelyStep();
    if (below(10) == 0) s[below(5)] = oddInt();
    if (below(10) == 0) s[1 + below(2)] = term();
    if (below(10) == 0) s[3 + below(2)] = below(x.many(4) + 1);
    claimOne(s);
    due("check(" + s[1] + ", " + s[2] + ")", x.check(s[1], s[2]), y.check(s[1], s[2]));
    due("check(" + s[2] + ", " + s[1] + ")", x.check(s[2], s[1]), y.check(s[2], s[1]));
    if (below(4) != 0) keepRightSteps();
  }

  private void claimOne(int[] s) {
    int k = x.claim(s[0], s[1], s[2], s[3], s[4]);
    due("claim" + java.util.Arrays.toString(s), k, y.claim(s[0], s[1], s[2], s[3], s[4]));
    due("status()", x.status(), y.status());
    if (k != -1) claims.add(s);
  }

  private int[] likelyStep() {
    int n = claims.size();
    int i = n == 0 ? 0 : below(n);
    int j = n == 0 ? 0 : below(n);
    int a = term();
    int b = other(a);
    int reason = below(7);
    if (reason == 0 && x.many(1) > 0) {
      i = below(x.many(1));
      boolean turned = below(2) == 0;
      a = x.said(i, turned ? 2 : 1);
      b = x.said(i, turned ? 1 : 2);
    } else if (reason == 1) {
      b = a;
    } else if (reason == 4) {
      i = below(2);
    } else if (n > 0 && reason == 2) {
      a = claims.get(i)[2];
      b = claims.get(i)[1];
    } else if (n > 0 && reason == 3) {
      for (int tries = 0; tries < 20 && claims.get(i)[2] != claims.get(j)[1]; tries++) j = below(n);
      a = claims.get(i)[1];
      b = claims.get(j)[2];
    } else if (n > 0 && reason >= 5) {
      for (int tries = 0; tries < 20 && x.kind(claims.get(i)[1]) != 3; tries++) i = below(n);
      a = partOr(claims.get(i)[1], reason - 5, a);
      b = partOr(claims.get(i)[2], reason - 5, b);
    }
    return new int[] {reason, a, b, i, j};
  }

  private int partOr(int t, int i, int other) {
    int got = x.part(t, i);
    due("part", got, y.part(t, i));
    return got == -1 ? other : got;
  }

  /** One wrong STEP hides all behind it, so that it is left out when all are claimed anew. */
  private void keepRightSteps() {
    int wrongAt = x.check(-1, -1);
    if (wrongAt >= claims.size()) return;
    java.util.List<int[]> kept = new java.util.ArrayList<>(claims.subList(0, wrongAt));
    due("unclaim()", x.unclaim(), y.unclaim());
    claims.clear();
    for (int[] s : kept) claimOne(s);
  }

  private void compareCores() {
    for (int i = -1; i <= 100; i++) {
      due("clashed(" + i + ")", x.clashed(i), y.clashed(i));
      due("because(" + i + ")", x.because(i), y.because(i));
    }
  }

  private void compareAll() {
    for (int what = -1; what <= 7; what++) due("many(" + what + ")", x.many(what), y.many(what));
    due("ended()", x.ended(), y.ended());
    for (int t = -1; t <= x.many(0); t++) {
      due("kind(" + t + ")", x.kind(t), y.kind(t));
      due("head(" + t + ")", x.head(t), y.head(t));
      due("world(" + t + ")", x.world(t), y.world(t));
      for (int i = -1; i < 4; i++) {
        due("member(" + t + ", " + i + ")", x.member(t, i), y.member(t, i));
        due("uses(" + t + ", " + i + ")", x.uses(t, i), y.uses(t, i));
      }
    }
    for (int s = -1; s <= x.many(1); s++) {
      for (int what = -1; what < 5; what++) due("said(" + s + ", " + what + ")", x.said(s, what), y.said(s, what));
    }
    compareCores();
  }

  public static void main(String[] args) {
    int runs = args.length > 0 ? Integer.parseInt(args[0]) : 240;
    long from = args.length > 1 ? Long.parseLong(args[1]) : 1;
    Expect expect = new Expect();
    for (int run = 0; run < runs && expect.isClean(); run++) {
      long seed = from + run;
      expect.about("run " + seed);
      new AgreementTest(expect, seed * 7919).run(run % ODDS.length, (run / ODDS.length) % 3 != 0);
    }
    expect.end();
  }
}
