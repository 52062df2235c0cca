import com.sun.management.ThreadMXBean;
import java.lang.management.ManagementFactory;
import java.util.Random;

/** Wild arguments in any state never throw, and calls make nothing new but an IMAGE's first keeping. */
public final class RoomTest {
  private static final Checks checks = new Checks("RoomTest");
  private static final int[] WILD = {Integer.MIN_VALUE, Integer.MIN_VALUE + 1, -1000001, -2, -1, 0, 1, 2, 3, 7, 8, 11, 12,
      29, 30, 39, 40, 59, 60, 61, 99, 100, 127, 128, 1000, 10000, 100000, 1000000, 10000000, Integer.MAX_VALUE - 1, Integer.MAX_VALUE};

  public static void main(String[] args) {
    wildCalls();
    room();
    checks.end();
  }

  private static void wildCalls() {
    Random random = new Random(5);
    for (int run = 0; run < 300; run++) {
      SteadyFund x = new SteadyFund();
      for (int i = 0; i < 512; i++) call(x, random.nextInt(47), random, random.nextInt(3) == 0);
    }
    checks.holds("no call threw", true);
  }

  private static void room() {
    ThreadMXBean bean = (ThreadMXBean) ManagementFactory.getThreadMXBean();
    long self = Thread.currentThread().getId();
    Random random = new Random(6);
    SteadyFund warm = new SteadyFund();
    for (int i = 0; i < 20000; i++) call(warm, i % 47, random, false);
    long before = bean.getThreadAllocatedBytes(self);
    SteadyFund x = new SteadyFund();
    x.image(0);
    x.image(1);
    long made = bean.getThreadAllocatedBytes(self) - before;
    checks.holds("an object with its IMAGES takes no more than 60000 bytes: " + made, made < 60000);
    before = bean.getThreadAllocatedBytes(self);
    for (int i = 0; i < 20000; i++) call(x, i % 47, random, false);
    made = bean.getThreadAllocatedBytes(self) - before;
    checks.holds("20000 calls make next to nothing: " + made, made < 10000);
  }

  private static long call(SteadyFund x, int which, Random r, boolean wild) {
    int a = number(r, wild), b = number(r, wild), c = number(r, wild), d = number(r, wild), e = number(r, wild);
    return which < 24 ? callOfFund(x, which, a, b, c, d, e) : callOfRest(x, which, a, b, c);
  }

  private static int number(Random r, boolean wild) {
    return wild ? WILD[r.nextInt(WILD.length)] : r.nextInt(12);
  }

  private static long callOfFund(SteadyFund x, int which, int a, int b, int c, int d, int e) {
    return switch (which) {
      case 0 -> x.person(a, b > 5);
      case 1 -> x.terms(a, b);
      case 2 -> x.puts(a, b);
      case 3 -> x.draws(a, b);
      case 4 -> x.months(a);
      case 5 -> x.shown(a);
      case 6 -> x.account(a);
      case 7 -> x.spans(a, b, b + c, d, d + e);
      case 8 -> x.falls(a);
      case 9 -> x.day(a, b, b + c, d);
      case 10 -> x.trade(a, b, c, d);
      case 11 -> x.wrong(a);
      case 12 -> x.first();
      case 13 -> x.even(a, b, c, d);
      case 14 -> x.funds(a, b, c, d, e);
      case 15 -> x.part(a);
      case 16 -> x.index(a, b);
      case 17 -> x.count(a, b);
      case 18 -> x.dealt(a, b, c);
      case 19 -> x.tide(a);
      case 20 -> x.moved(a, b);
      case 21 -> x.gift(a, b, c, d);
      case 22 -> x.years(a, b);
      default -> x.take(a, b);
    };
  }

  private static long callOfRest(SteadyFund x, int which, int a, int b, int c) {
    return switch (which) {
      case 24 -> x.coin(a, b);
      case 25 -> x.due(a, b, c);
      case 26 -> x.struck(a > 5);
      case 27 -> x.pays(a, b);
      case 28 -> x.rounds(a, b);
      case 29 -> x.letter(a, b, c);
      case 30 -> x.write("(1+m)<c|s&i=o*q/r-!".charAt(Math.floorMod(a, 19)));
      case 31 -> a > 10 ? x.erase() : x.write(a);
      case 32 -> x.fault();
      case 33 -> x.bound();
      case 34 -> x.lost(a);
      case 35 -> x.hand(a, b);
      case 36 -> x.whose(a);
      case 37 -> x.suit(a, b, c);
      case 38 -> x.best(a, b);
      case 39 -> x.keep();
      case 40 -> x.alter(a, b);
      case 41 -> x.check(a);
      case 42 -> x.image(a);
      case 43 -> x.from(a);
      case 44 -> x.many(a);
      default -> x.digest();
    };
  }
}
