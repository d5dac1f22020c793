import java.util.ArrayList;
import java.util.Arrays;
import java.util.HashMap;
import java.util.List;
import java.util.Map;
import java.util.TreeMap;
import java.util.TreeSet;

/** The document taken word by word, with no thought of speed: what EqualCourt is held against. */
final class SlowCourt {
  private record Term(int kind, int shown, List<Integer> parts) {}
  private record Saying(boolean same, int a, int b) {}
  private record Step(int reason, int a, int b, int i, int j) {}

  private List<Term> terms = new ArrayList<>();
  private final List<Saying> sayings = new ArrayList<>();
  private TreeSet<Integer> taken = new TreeSet<>();
  private final List<TreeSet<Integer>> levels = new ArrayList<>();
  private final List<int[]> laws = new ArrayList<>();
  private final List<Step> steps = new ArrayList<>();
  private List<Integer> clashCore = new ArrayList<>();
  private List<Integer> causes = new ArrayList<>();
  private int endedBy = -1;
  private int finding = 0;

  private int no(int why) {
    finding = why;
    return -1;
  }

  private int yes(int answer) {
    finding = 0;
    return answer;
  }

  private boolean isTerm(int t) {
    return t >= 0 && t < terms.size();
  }

  private int add(Term t) {
    int at = terms.indexOf(t);
    if (at >= 0) return at;
    if (terms.size() == 120) return -1;
    terms.add(t);
    return terms.size() - 1;
  }

  private int make(Term t) {
    int at = add(t);
    return at < 0 ? no(3) : yes(at);
  }

  int name(int n) {
    return n < 0 || n > 99 ? no(1) : make(new Term(0, n, List.of()));
  }

  int number(int v) {
    return make(new Term(1, v, List.of()));
  }

  int built(int head, int n, int a, int b, int c) {
    if (head < 0 || head > 19) return no(1);
    if (n < 0) return no(8);
    if (n == 0 || n > 3) return no(1);
    List<Integer> parts = List.of(a, b, c).subList(0, n);
    for (int p : parts) if (!isTerm(p)) return no(1);
    return make(new Term(2, head, new ArrayList<>(parts)));
  }

  int row(int first, int rest) {
    return !isTerm(first) || !isTerm(rest) ? no(1) : make(new Term(3, 0, List.of(first, rest)));
  }

  int even(int head, int a, int b) {
    if (head < 0 || head > 19 || !isTerm(a) || !isTerm(b)) return no(1);
    return make(new Term(4, head, List.of(a, b)));
  }

  int kind(int t) {
    return isTerm(t) ? terms.get(t).kind : -1;
  }

  int part(int t, int i) {
    if (!isTerm(t)) return no(1);
    Term x = terms.get(t);
    if (x.kind < 2) return no(2);
    return i < 0 || i >= x.parts.size() ? no(1) : yes(x.parts.get(i));
  }

  int shows(int t) {
    if (!isTerm(t)) return no(1);
    return terms.get(t).kind == 3 ? no(2) : yes(terms.get(t).shown);
  }

  int many(int what) {
    return switch (what) {
      case 0 -> terms.size();
      case 1 -> sayings.size();
      case 2 -> taken.size();
      case 3 -> laws.size();
      case 4 -> steps.size();
      case 5 -> levels.size();
      case 6 -> (int) Arrays.stream(classes()).distinct().count();
      default -> -1;
    };
  }

  private Map<String, int[]> remembered = new HashMap<>();
  private int rememberedFor = -1;

  private int[] classes() {
    return closure(taken, null);
  }

  /** The least TERM of each TERM's CLASS by a set of SAYINGS and one more. */
  private int[] closure(Iterable<Integer> set, Saying more) {
    if (rememberedFor != terms.size() || remembered.size() > 2000) {
      remembered.clear();
      rememberedFor = terms.size();
    }
    StringBuilder key = new StringBuilder();
    for (int s : set) if (sayings.get(s).same) key.append(s).append(' ');
    if (more != null && more.same) key.append(more.a).append('=').append(more.b);
    int[] known = remembered.get(key.toString());
    if (known != null) return known;
    int[] one = new int[terms.size()];
    for (int t = 0; t < one.length; t++) one[t] = t;
    for (int s : set) if (sayings.get(s).same) unite(one, sayings.get(s).a, sayings.get(s).b);
    if (more != null && more.same) unite(one, more.a, more.b);
    boolean changed = true;
    while (changed) {
      changed = false;
      for (int t = 0; t < one.length; t++) {
        for (int u = 0; u < t; u++) {
          changed |= followPair(one, t, u);
        }
      }
    }
    remembered.put(key.toString(), one);
    return one;
  }

  private boolean followPair(int[] one, int t, int u) {
    Term x = terms.get(t);
    Term y = terms.get(u);
    if (x.kind != y.kind || x.kind < 2) return false;
    boolean changed = false;
    if (x.kind == 3 && one[t] == one[u]) {
      changed |= unite(one, x.parts.get(0), y.parts.get(0));
      changed |= unite(one, x.parts.get(1), y.parts.get(1));
    }
    if (one[t] == one[u] || x.shown != y.shown || x.parts.size() != y.parts.size()) return changed;
    boolean straight = true;
    for (int i = 0; i < x.parts.size(); i++) straight &= one[x.parts.get(i)] == one[y.parts.get(i)];
    boolean crossed = x.kind == 4 && one[x.parts.get(0)] == one[y.parts.get(1)]
        && one[x.parts.get(1)] == one[y.parts.get(0)];
    if (straight || crossed) changed |= unite(one, t, u);
    return changed;
  }

  private static boolean unite(int[] one, int a, int b) {
    int low = Math.min(one[a], one[b]);
    int high = Math.max(one[a], one[b]);
    if (low == high) return false;
    for (int t = 0; t < one.length; t++) if (one[t] == high) one[t] = low;
    return true;
  }

  private boolean clashes(Iterable<Integer> set, Saying more) {
    int[] one = closure(set, more);
    TreeMap<Integer, Integer> numbers = new TreeMap<>();
    for (int t = 0; t < one.length; t++) {
      if (terms.get(t).kind == 1 && numbers.put(one[t], t) != null) return true;
    }
    for (int s : set) {
      Saying x = sayings.get(s);
      if (!x.same && one[x.a] == one[x.b]) return true;
    }
    return more != null && !more.same && one[more.a] == one[more.b];
  }

  private interface Something {
    boolean isSo(List<Integer> set);
  }

  private List<Integer> thinned(Something something) {
    List<Integer> left = new ArrayList<>(taken);
    for (int s : taken) {
      List<Integer> without = new ArrayList<>(left);
      without.remove(Integer.valueOf(s));
      if (something.isSo(without)) left = without;
    }
    return left;
  }

  private int comes(Saying x) {
    if (!isTerm(x.a) || !isTerm(x.b)) return no(1);
    if (sayings.size() == 100) return no(3);
    if (clashes(taken, x)) {
      clashCore = thinned(set -> clashes(set, x));
      return no(4);
    }
    sayings.add(x);
    taken.add(sayings.size() - 1);
    return yes(sayings.size() - 1);
  }

  int say(int a, int b) {
    return comes(new Saying(true, a, b));
  }

  int unlike(int a, int b) {
    return comes(new Saying(false, a, b));
  }

  int drop(int s) {
    if (s < 0 || s >= sayings.size()) return no(1);
    if (!taken.remove(s)) return no(5);
    return yes(taken.size());
  }

  int said(int s, int what) {
    if (s < 0 || s >= sayings.size()) return -1;
    Saying x = sayings.get(s);
    return switch (what) {
      case 0 -> x.same ? 1 : 0;
      case 1 -> x.a;
      case 2 -> x.b;
      case 3 -> taken.contains(s) ? 1 : 0;
      default -> -1;
    };
  }

  private static int at(List<Integer> row, int i) {
    return i >= 0 && i < row.size() ? row.get(i) : -1;
  }

  int clashed(int i) {
    return at(clashCore, i);
  }

  int judge(int a, int b) {
    if (!isTerm(a) || !isTerm(b)) return -1;
    int[] one = classes();
    if (one[a] == one[b]) return 1;
    return clashes(taken, new Saying(true, a, b)) ? 0 : 2;
  }

  int why(int a, int b) {
    int judged = judge(a, b);
    if (judged == -1) return no(1);
    if (judged == 2) return no(6);
    if (judged == 1) causes = thinned(set -> isOneBy(set, a, b));
    else causes = thinned(set -> clashes(set, new Saying(true, a, b)));
    return yes(causes.size());
  }

  private boolean isOneBy(Iterable<Integer> set, int a, int b) {
    int[] one = closure(set, null);
    return one[a] == one[b];
  }

  int least(int a, int b, int trials) {
    if (!isTerm(a) || !isTerm(b) || trials < 1 || trials > 500) return no(1);
    if (!isOneBy(taken, a, b)) return no(6);
    int[] left = {trials};
    for (int size = 0; size <= taken.size(); size++) {
      List<Integer> found = trySets(new ArrayList<>(), new ArrayList<>(taken), 0, size, left, a, b);
      if (found != null) {
        causes = found;
        return yes(size);
      }
      if (left[0] == 0) return no(7);
    }
    throw new IllegalStateException("all of COURT is enough");
  }

  private List<Integer> trySets(List<Integer> set, List<Integer> pool, int from, int size, int[] left, int a, int b) {
    if (set.size() == size) {
      if (left[0] == 0) return null;
      left[0]--;
      return isOneBy(set, a, b) ? new ArrayList<>(set) : null;
    }
    for (int i = from; i < pool.size() && left[0] > 0; i++) {
      set.add(pool.get(i));
      List<Integer> found = trySets(set, pool, i + 1, size, left, a, b);
      if (found != null) return found;
      set.remove(set.size() - 1);
    }
    return null;
  }

  int because(int i) {
    return at(causes, i);
  }

  int head(int t) {
    return isTerm(t) ? classes()[t] : -1;
  }

  int member(int t, int i) {
    if (!isTerm(t)) return -1;
    int[] one = classes();
    List<Integer> found = new ArrayList<>();
    for (int u = 0; u < one.length; u++) if (one[u] == one[t]) found.add(u);
    return at(found, i);
  }

  int uses(int t, int i) {
    if (!isTerm(t)) return -1;
    int[] one = classes();
    List<Integer> found = new ArrayList<>();
    for (int u = 0; u < one.length; u++) {
      if (terms.get(u).parts.stream().anyMatch(p -> one[p] == one[t])) found.add(u);
    }
    return at(found, i);
  }

  long world(int t) {
    if (!isTerm(t)) return 1099511627776L;
    int[] one = classes();
    TreeSet<Integer> values = new TreeSet<>();
    TreeMap<Integer, Integer> numberOf = new TreeMap<>();
    for (int u = 0; u < one.length; u++) {
      if (terms.get(u).kind == 1) {
        values.add(terms.get(u).shown);
        numberOf.put(one[u], terms.get(u).shown);
      }
    }
    if (numberOf.containsKey(one[t])) return numberOf.get(one[t]);
    List<Integer> free = new ArrayList<>();
    for (int v = 0; v < 300; v++) if (!values.contains(v)) free.add(v);
    int k = 0;
    for (int h = 0; h < one[t]; h++) if (one[h] == h && !numberOf.containsKey(h)) k++;
    return free.get(k);
  }

  int push() {
    if (levels.size() == 10) return no(3);
    levels.add(new TreeSet<>(taken));
    return yes(levels.size());
  }

  int pop() {
    if (levels.isEmpty()) return no(9);
    taken = levels.remove(levels.size() - 1);
    return yes(taken.size());
  }

  int law(int a, int b) {
    if (!isTerm(a) || !isTerm(b)) return no(1);
    if (laws.size() == 10) return no(3);
    laws.add(new int[] {a, b});
    return yes(laws.size() - 1);
  }

  private boolean isHole(int t) {
    Term x = terms.get(t);
    return x.kind == 0 && x.shown >= 90 && x.shown <= 92;
  }

  private boolean stands(int hole, int t) {
    boolean[] in = new boolean[t + 1];
    for (int u = 0; u <= t; u++) {
      Term x = terms.get(u);
      in[u] = x.kind == 0 && x.shown == hole;
      for (int p : x.parts) in[u] |= in[p];
    }
    return in[t];
  }

  private int image(int t, int[] xyz, Map<Integer, Integer> known) {
    if (isHole(t)) return xyz[terms.get(t).shown - 90];
    if (known.containsKey(t)) return known.get(t);
    Term x = terms.get(t);
    List<Integer> parts = new ArrayList<>();
    for (int p : x.parts) {
      int q = image(p, xyz, known);
      if (q < 0) return -1;
      parts.add(q);
    }
    int made = add(new Term(x.kind, x.shown, parts));
    known.put(t, made);
    return made;
  }

  private int wholeImage(int t, int... xyz) {
    List<Term> before = new ArrayList<>(terms);
    int made = image(t, xyz, new TreeMap<>());
    if (made < 0) terms = before;
    return made;
  }

  int instance(int t, int x, int y, int z) {
    if (!isTerm(t) || !isTerm(x) || !isTerm(y) || !isTerm(z)) return no(1);
    int made = wholeImage(t, x, y, z);
    return made < 0 ? no(3) : yes(made);
  }

  int follow(int law, int n) {
    if (law < 0 || law >= laws.size() || n < 1 || n > 50) return no(1);
    int[] one = classes();
    List<Integer> heads = new ArrayList<>();
    for (int t = 0; t < one.length; t++) if (one[t] == t && !isHole(t)) heads.add(t);
    if (heads.isEmpty()) return no(6);
    int[] both = laws.get(law);
    List<List<Integer>> over = new ArrayList<>();
    for (int hole = 90; hole <= 92; hole++) {
      over.add(stands(hole, both[0]) || stands(hole, both[1]) ? heads : heads.subList(0, 1));
    }
    int before = sayings.size();
    endedBy = 0;
    for (int x : over.get(0)) {
      for (int y : over.get(1)) {
        for (int z : over.get(2)) {
          int a = wholeImage(both[0], x, y, z);
          int b = a < 0 ? -1 : wholeImage(both[1], x, y, z);
          if (b < 0) {
            endedBy = 2;
            return yes(sayings.size() - before);
          }
          if (isOneBy(taken, a, b)) continue;
          if (comes(new Saying(true, a, b)) < 0) {
            endedBy = finding == 3 ? 3 : 4;
            return yes(sayings.size() - before);
          }
          if (sayings.size() - before == n) {
            endedBy = 1;
            return yes(n);
          }
        }
      }
    }
    return yes(sayings.size() - before);
  }

  int ended() {
    return endedBy;
  }

  int claim(int reason, int a, int b, int i, int j) {
    if (!isTerm(a) || !isTerm(b)) return no(1);
    if (steps.size() == 100) return no(3);
    steps.add(new Step(reason, a, b, i, j));
    return yes(steps.size() - 1);
  }

  int unclaim() {
    int were = steps.size();
    steps.clear();
    return yes(were);
  }

  int check(int a, int b) {
    for (int k = 0; k < steps.size(); k++) {
      if (!isRight(steps.get(k), steps.subList(0, k))) return k;
    }
    if (steps.isEmpty()) return 0;
    Step last = steps.get(steps.size() - 1);
    return last.a == a && last.b == b ? -1 : steps.size();
  }

  private boolean isRight(Step s, List<Step> ahead) {
    Step i = s.i >= 0 && s.i < ahead.size() ? ahead.get(s.i) : null;
    Step j = s.j >= 0 && s.j < ahead.size() ? ahead.get(s.j) : null;
    switch (s.reason) {
      case 0:
        if (!taken.contains(s.i)) return false;
        Saying x = sayings.get(s.i);
        return x.same && (x.a == s.a && x.b == s.b || x.a == s.b && x.b == s.a);
      case 1:
        return s.a == s.b;
      case 2:
        return i != null && i.a == s.b && i.b == s.a;
      case 3:
        return i != null && j != null && i.a == s.a && i.b == j.a && j.b == s.b;
      case 4:
        Term p = terms.get(s.a);
        Term q = terms.get(s.b);
        if (p.kind < 2 || p.kind != q.kind || p.shown != q.shown || p.parts.size() != q.parts.size()) return false;
        List<Integer> others = new ArrayList<>(q.parts);
        if (p.kind == 4 && s.i == 1) java.util.Collections.reverse(others);
        for (int at = 0; at < others.size(); at++) {
          int l = p.parts.get(at);
          int r = others.get(at);
          if (l != r && ahead.stream().noneMatch(e -> e.a == l && e.b == r)) return false;
        }
        return true;
      case 5:
      case 6:
        if (i == null || terms.get(i.a).kind != 3 || terms.get(i.b).kind != 3) return false;
        int at = s.reason - 5;
        return terms.get(i.a).parts.get(at) == s.a && terms.get(i.b).parts.get(at) == s.b;
      default:
        return false;
    }
  }

  int status() {
    return finding;
  }
}
