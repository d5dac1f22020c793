import java.lang.management.ManagementFactory;

/** All room is taken when an object is made: the dearest calls take none. */
public final class RoomTest {
  private static final Expect e = new Expect();
  private static final com.sun.management.ThreadMXBean THREADS =
      (com.sun.management.ThreadMXBean) ManagementFactory.getThreadMXBean();

  private static long taken() {
    return THREADS.getThreadAllocatedBytes(Thread.currentThread().getId());
  }

  /** 100 TERMS in a chain of 99 SAYINGS. */
  private static EqualCourt chain() {
    EqualCourt x = new EqualCourt();
    for (int i = 0; i < 100; i++) x.name(i);
    for (int i = 0; i < 99; i++) x.say(i, i + 1);
    return x;
  }

  private static EqualCourt lawful() {
    EqualCourt x = new EqualCourt();
    x.law(x.name(90), x.name(91));
    for (int i = 0; i < 50; i++) x.name(i);
    return x;
  }

  private static long work(EqualCourt x, EqualCourt y) {
    long sum = 0;
    for (int i = 0; i < 20; i++) {
      sum += x.why(0, 99) + x.least(0, 2, 500) + x.unlike(0, 99) + x.judge(3, 70) + x.world(5) + x.uses(0, 3);
      sum += y.push() + y.follow(0, 50) + y.drop(0) + y.pop() + y.instance(0, 3, 4, 5) + y.claim(1, 0, 0, 0, 0);
      sum += y.check(0, 0) + y.member(0, 0) + y.many(6) + y.head(4);
    }
    return sum;
  }

  public static void main(String[] args) {
    work(chain(), lawful());
    EqualCourt x = chain();
    EqualCourt y = lawful();
    taken();
    long before = taken();
    long sum = work(x, y);
    long after = taken();
    // Measuring takes a little itself.
    e.due("room of 320 calls is small", Math.max(2000, after - before), 2000);
    e.due("they were done", sum != 0 ? 1 : 0, 1);
    before = taken();
    new EqualCourt();
    e.due("room of an object is small", Math.max(60000, taken() - before), 60000);
    e.end();
  }
}
