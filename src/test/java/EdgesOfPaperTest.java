import java.math.BigInteger;

/** Terms 2, promises 11 to 17: the edges of the paper and of even rows. */
public final class EdgesOfPaperTest {
  private static final Checks checks = new Checks("EdgesOfPaperTest");
  private static final int BAD = SteadyFund.BAD, NONE = SteadyFund.NONE;

  public static void main(String[] args) {
    shutAtFirst();
    shutIsOneAlone();
    lowestAndHighest();
    pricesAtTheirEnds();
    noMoreThanSold();
    toldAhead();
    soldAtItsEnds();
    openedAnew();
    theFirst();
    wrongOnes();
    evenOfAll();
    evenAtItsEnds();
    fundsAreCut();
    fractionAtFirst();
    checks.end();
  }

  /** "days 0 .. 29: shut (at first)": one that is opened opens no other. */
  private static void shutAtFirst() {
    SteadyFund x = new SteadyFund();
    for (int d = 0; d < 30; d++) {
      x.trade(d, 10000, 1, 0);
      checks.due("shut", x.wrong(d), 1);
    }
    for (int d = 0; d < 30; d++) {
      checks.due("the first that is shut", x.first(), d);
      checks.due("opened", x.day(d, 10000, 10000, 1), 1);
      checks.due("open", x.wrong(d), 0);
      checks.due("the others are shut", x.many(4), 29 - d);
    }
    checks.due("all are right", x.first(), NONE);
  }

  /** "1 the day is shut (neither 2 nor 4)": whatever the price, the amount and what is told ahead. */
  private static void shutIsOneAlone() {
    SteadyFund x = new SteadyFund();
    x.trade(0, 1, 1, 0);
    x.trade(0, 10000, 100000, 3);
    x.trade(0, 10000, 100000, 3);
    for (int t = 0; t < 3; t++) checks.due("shut", x.wrong(t), 1);
    x.day(0, 2, 2, 0);
    for (int t = 0; t < 3; t++) checks.due("open", x.wrong(t), 6);
  }

  /** "2 the price is outside": the lowest and the highest are not, one below and one above are. */
  private static void lowestAndHighest() {
    SteadyFund x = new SteadyFund();
    x.day(7, 500, 600, 100000);
    int[] prices = {499, 500, 501, 599, 600, 601, 1, 10000};
    int[] due = {2, 0, 0, 0, 0, 2, 2, 2};
    for (int t = 0; t < prices.length; t++) {
      x.trade(7, prices[t], 1, 0);
      checks.due("price " + prices[t], x.wrong(t), due[t]);
    }
    x.day(7, 501, 501, 100000);
    for (int t = 0; t < prices.length; t++) checks.due("one price alone", x.wrong(t), prices[t] == 501 ? 0 : 2);
  }

  /** "the lowest, the highest price (1 .. 10000)". */
  private static void pricesAtTheirEnds() {
    SteadyFund x = new SteadyFund();
    x.trade(0, 1, 1, 0);
    x.trade(0, 10000, 1, 0);
    int[][] rows = {{1, 10000, 0, 0}, {2, 10000, 2, 0}, {1, 9999, 0, 2}, {1, 1, 0, 2}, {10000, 10000, 2, 0}};
    for (int[] row : rows) {
      checks.due("day", x.day(0, row[0], row[1], 100000), 1);
      checks.due("price 1", x.wrong(0), row[2]);
      checks.due("price 10000", x.wrong(1), row[3]);
    }
    checks.due("the lowest above the highest", x.day(0, 2, 1, 5), BAD);
    checks.due("the lowest above the highest", x.day(0, 10000, 9999, 5), BAD);
    checks.due("nothing has changed", x.wrong(0), 2);
  }

  /** "4 with TRADES of that day told ahead (and it) more than was sold": just so much is not more. */
  private static void noMoreThanSold() {
    for (int more = 0; more < 2; more++) {
      SteadyFund x = new SteadyFund();
      x.day(0, 5, 5, 100);
      x.trade(0, 5, 60, 0);
      x.trade(0, 5, 40 + more, 0);
      checks.due("it alone", x.wrong(0), 0);
      checks.due("together", x.wrong(1), 4 * more);
      x.trade(0, 4, 1, 0);
      checks.due("once more, and outside", x.wrong(2), 6);
    }
  }

  /** Of that day alone, ahead alone, and those that are WRONG themselves, too. */
  private static void toldAhead() {
    SteadyFund x = new SteadyFund();
    x.day(0, 5, 5, 100);
    x.day(1, 5, 5, 100);
    x.trade(1, 5, 100, 0);
    x.trade(2, 5, 100, 0);
    x.trade(0, 5, 50, 0);
    x.trade(0, 9, 50, 0);
    x.trade(0, 5, 1, 0);
    x.trade(0, 5, 100000, 0);
    int[] due = {0, 1, 0, 2, 4, 4};
    for (int t = 0; t < due.length; t++) checks.due("trade " + t, x.wrong(t), due[t]);
  }

  /** "so much sold (0 .. 100000)", amounts "(1 .. 100000)". */
  private static void soldAtItsEnds() {
    SteadyFund x = new SteadyFund();
    x.day(0, 5, 5, 0);
    x.trade(0, 5, 1, 0);
    checks.due("none was sold", x.wrong(0), 4);
    x.day(0, 5, 5, 1);
    checks.due("one was", x.wrong(0), 0);
    x.day(0, 5, 5, 100000);
    x.trade(0, 5, 99999, 0);
    checks.due("just all", x.wrong(1), 0);
    x.trade(0, 5, 1, 0);
    checks.due("one more", x.wrong(2), 4);
    SteadyFund y = new SteadyFund();
    y.day(0, 5, 5, 100000);
    for (int t = 0; t < 40; t++) {
      y.trade(0, 5, 100000, 0);
      checks.due("the greatest amounts", y.wrong(t), t == 0 ? 0 : 4);
    }
    y.day(0, 5, 5, 99999);
    checks.due("one fewer", y.wrong(0), 4);
  }

  /** "A day is open, with lowest, highest, sold": told anew it holds for TRADES ahead of it. */
  private static void openedAnew() {
    SteadyFund x = new SteadyFund();
    x.trade(29, 50, 10, 3);
    checks.due("shut", x.wrong(0), 1);
    int[][] rows = {{50, 50, 10, 0}, {51, 60, 10, 2}, {40, 49, 9, 6}, {1, 10000, 9, 4}, {1, 10000, 10, 0}};
    for (int[] row : rows) {
      x.day(29, row[0], row[1], row[2]);
      checks.due("told anew", x.wrong(0), row[3]);
      checks.due("WRONG ones", x.many(4), row[3] == 0 ? 0 : 1);
    }
  }

  /** "THE FIRST that could have told": number 0 is not NONE. */
  private static void theFirst() {
    SteadyFund x = new SteadyFund();
    checks.due("without TRADES", x.first(), NONE);
    x.day(3, 5, 5, 10);
    for (int t = 0; t < 40; t++) x.trade(t == 0 || t == 20 || t == 39 ? t % 3 : 3, 5, t == 3 ? 10 : 1, 0);
    checks.due("the first of all", x.first(), 0);
    x.day(0, 5, 5, 10);
    checks.due("the next by more than was sold", x.first(), 3);
    x.day(3, 5, 5, 100);
    checks.due("the next", x.first(), 20);
    x.day(2, 5, 5, 10);
    checks.due("none is left", x.first(), NONE);
  }

  /** many(4): none, some and all of them. */
  private static void wrongOnes() {
    SteadyFund x = new SteadyFund();
    x.day(0, 5, 5, 20);
    for (int t = 0; t < 40; t++) x.trade(0, 5, 1, 0);
    checks.due("half of them", x.many(4), 20);
    x.day(0, 5, 5, 40);
    checks.due("none", x.many(4), 0);
    x.day(0, 6, 6, 40);
    checks.due("all", x.many(4), 40);
  }

  /** Every row there is: n 1 .. 18, k 0 .. n, 0 < a < b <= 10, in lowest terms. */
  private static void evenOfAll() {
    for (int b = 2; b <= 10; b++) {
      for (int a = 1; a < b; a++) {
        for (int n = 1; n <= 18; n++) evenOf(n, a, b);
      }
    }
  }

  private static void evenOf(int n, int a, int b) {
    SteadyFund x = new SteadyFund();
    BigInteger ways = BigInteger.ZERO, all = BigInteger.valueOf(b).pow(n), choose = BigInteger.ONE;
    for (int k = n; k >= 0; k--) {
      ways = ways.add(choose.multiply(BigInteger.valueOf(a).pow(k)).multiply(BigInteger.valueOf(b - a).pow(n - k)));
      choose = choose.multiply(BigInteger.valueOf(k)).divide(BigInteger.valueOf(n - k + 1));
      BigInteger common = ways.gcd(all);
      String told = Calls.told("even", n, k, a, b);
      checks.due(told, x.even(n, k, a, b), 1);
      checks.due(told + " above", x.part(0), ways.divide(common).longValueExact());
      checks.due(told + " below", x.part(1), all.divide(common).longValueExact());
      for (int w : new int[] {1, 1000000}) {
        checks.due(told + " of " + w, x.funds(n, k, a, b, w), ways.multiply(BigInteger.valueOf(w)).divide(all).longValueExact());
      }
    }
  }

  private static void even(int n, int k, int a, int b, long above, long below) {
    SteadyFund x = new SteadyFund();
    checks.due(Calls.told("even", n, k, a, b), x.even(n, k, a, b), 1);
    checks.due(Calls.told("even", n, k, a, b) + " above", x.part(0), above);
    checks.due(Calls.told("even", n, k, a, b) + " below", x.part(1), below);
  }

  /** "of n months (1 .. 18)", "at least k are up: k 0 .. n", "0 < a < b <= 10". */
  private static void evenAtItsEnds() {
    even(1, 0, 1, 2, 1, 1);
    even(1, 1, 1, 2, 1, 2);
    even(1, 1, 9, 10, 9, 10);
    even(1, 1, 1, 10, 1, 10);
    even(1, 1, 2, 10, 1, 5);
    even(2, 1, 1, 2, 3, 4);
    even(2, 2, 1, 2, 1, 4);
    even(18, 0, 9, 10, 1, 1);
    even(18, 18, 1, 2, 1, 262144);
    even(18, 18, 1, 10, 1, 1000000000000000000L);
    even(18, 1, 1, 2, 262143, 262144);
    even(18, 1, 9, 10, 999999999999999999L, 1000000000000000000L);
  }

  /** "of w such funds (1 .. 1000000) so many (cut)". */
  private static void fundsAreCut() {
    SteadyFund x = new SteadyFund();
    x.even(1, 1, 1, 3);
    checks.due("one of a half", x.funds(1, 1, 1, 2, 1), 0);
    checks.due("two of a half", x.funds(1, 1, 1, 2, 2), 1);
    checks.due("one of all", x.funds(1, 0, 1, 2, 1), 1);
    checks.due("three of a half", x.funds(1, 1, 1, 2, 3), 1);
    checks.due("just one", x.funds(6, 6, 1, 10, 1000000), 1);
    checks.due("one fewer", x.funds(6, 6, 1, 10, 999999), 0);
    checks.due("of the rarest", x.funds(18, 18, 1, 10, 1000000), 0);
    checks.due("of the most", x.funds(18, 1, 9, 10, 1000000), 999999);
    checks.due("of all", x.funds(18, 0, 9, 10, 1000000), 1000000);
    checks.due("THE FRACTION stays: above", x.part(0), 1);
    checks.due("THE FRACTION stays: below", x.part(1), 3);
  }

  /** "THE FRACTION is 0 by 1 at first", and what is refused moves it not. */
  private static void fractionAtFirst() {
    SteadyFund x = new SteadyFund();
    for (int i = 0; i < 2; i++) checks.due("at first", x.part(i), i);
    x.even(0, 0, 1, 2);
    x.even(19, 0, 1, 2);
    x.even(1, 2, 1, 2);
    x.even(1, 0, 2, 2);
    x.even(1, 0, 10, 11);
    x.tide(-1);
    x.tide(10000001);
    for (int i = 0; i < 2; i++) checks.due("as at first", x.part(i), i);
    x.even(1, 0, 1, 2);
    checks.due("all", x.part(0), 1);
    x.even(0, 0, 1, 2);
    checks.due("all", x.part(0), 1);
  }
}
