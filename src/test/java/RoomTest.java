import com.sun.management.ThreadMXBean;
import java.lang.management.ManagementFactory;
import java.util.Random;

/** Wild arguments in any state never throw, and no run of calls takes much room. */
public final class RoomTest {
  private static final Checks checks = new Checks("RoomTest");
  private static final int[] WILD = {Integer.MIN_VALUE, Integer.MIN_VALUE + 1, -1000001, -2, -1, 0, 1, 2, 3, 7, 8, 11, 12,
      29, 30, 39, 40, 59, 60, 61, 99, 100, 127, 128, 1000, 10000, 100000, 1000000, 10000000, Integer.MAX_VALUE - 1, Integer.MAX_VALUE};
  /** One row for all calls, as what they make is counted. */
  private static final int[] numbers = new int[5];

  public static void main(String[] args) {
    wildCalls();
    room();
    checks.end();
  }

  private static void wildCalls() {
    Random random = new Random(5);
    for (int run = 0; run < 300; run++) {
      SteadyFund x = new SteadyFund();
      for (int i = 0; i < 512; i++) call(x, random.nextInt(Calls.NAMES.length), random, random.nextInt(3) == 0);
    }
    checks.holds("no call threw", true);
  }

  /** A run's room holds 7.3 million fields and elements: no run of an object takes a hundredth of it, whichever its calls. */
  private static void room() {
    ThreadMXBean bean = (ThreadMXBean) ManagementFactory.getThreadMXBean();
    long self = Thread.currentThread().getId();
    Random random = new Random(6);
    for (int i = 0; i < 40; i++) run(i, random);
    for (int which = 0; which < Calls.NAMES.length; which++) {
      long before = bean.getThreadAllocatedBytes(self);
      run(which, random);
      long made = bean.getThreadAllocatedBytes(self) - before;
      checks.holds("room of a run of " + Calls.NAMES[which] + ": " + made + " bytes", made < 73000 * 8);
    }
  }

  /** 512 calls: both IMAGES, then all calls in turn, then one again and again. */
  private static void run(int which, Random random) {
    SteadyFund x = new SteadyFund();
    x.image(0);
    x.image(1);
    for (int i = 0; i < 255; i++) call(x, i % Calls.NAMES.length, random, false);
    for (int i = 0; i < 255; i++) call(x, which, random, false);
  }

  /** A pair from and to is often in order, and RULES are seldom erased, so that calls come far. */
  private static long call(SteadyFund x, int which, Random r, boolean wild) {
    for (int i = 0; i < numbers.length; i++) numbers[i] = number(r, wild);
    String name = Calls.NAMES[which];
    if (name.equals("spans") || name.equals("day")) numbers[2] += numbers[1];
    if (name.equals("spans")) numbers[4] += numbers[3];
    if (name.equals("erase") && numbers[0] < 10) name = "write";
    if (name.equals("write") && !wild) numbers[0] = "(1+m)<c|s&i=o*q/r-!".charAt(numbers[0]);
    return Calls.call(x, name, numbers);
  }

  private static int number(Random r, boolean wild) {
    return wild ? WILD[r.nextInt(WILD.length)] : r.nextInt(12);
  }
}
