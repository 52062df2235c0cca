/** Promises 11 to 17: the paper. */
public final class PaperTest {
  private static final Checks checks = new Checks("PaperTest");

  public static void main(String[] args) {
    day();
    trade();
    wrong();
    first();
    even();
    funds();
    part();
    checks.end();
  }

  /** Promise 11. */
  private static void day() {
    SteadyFund x = new SteadyFund();
    x.trade(0, 5, 10, 0);
    checks.due("shut", x.wrong(0), 1);
    checks.due("day(-1)", x.day(-1, 1, 10, 100), SteadyFund.BAD);
    checks.due("day(30)", x.day(30, 1, 10, 100), SteadyFund.BAD);
    checks.due("low 0", x.day(0, 0, 10, 100), SteadyFund.BAD);
    checks.due("high 10001", x.day(0, 1, 10001, 100), SteadyFund.BAD);
    checks.due("low above high", x.day(0, 11, 10, 100), SteadyFund.BAD);
    checks.due("low and high too large", x.day(0, 10001, 10001, 100), SteadyFund.BAD);
    checks.due("sold below 0", x.day(0, 1, 10, -1), SteadyFund.BAD);
    checks.due("sold 100001", x.day(0, 1, 10, 100001), SteadyFund.BAD);
    checks.due("refused days change nothing", x.wrong(0), 1);
    checks.due("day", x.day(0, 5, 5, 10), 1);
    checks.due("right", x.wrong(0), 0);
    checks.due("told again", x.day(0, 1, 4, 9), 1);
    checks.due("outside, and more than sold", x.wrong(0), 6);
    checks.due("day(29, 1, 10000, 100000)", x.day(29, 1, 10000, 100000), 1);
    checks.due("day(0, 10000, 10000, 0)", x.day(0, 10000, 10000, 0), 1);
  }

  /** Promise 12. */
  private static void trade() {
    SteadyFund x = new SteadyFund();
    long before = x.digest();
    checks.refused("day -1", x, before, x.trade(-1, 1, 1, 0), SteadyFund.BAD);
    checks.refused("day 30", x, before, x.trade(30, 1, 1, 0), SteadyFund.BAD);
    checks.refused("price 0", x, before, x.trade(0, 0, 1, 0), SteadyFund.BAD);
    checks.refused("price 10001", x, before, x.trade(0, 10001, 1, 0), SteadyFund.BAD);
    checks.refused("amount 0", x, before, x.trade(0, 1, 0, 0), SteadyFund.BAD);
    checks.refused("amount 100001", x, before, x.trade(0, 1, 100001, 0), SteadyFund.BAD);
    checks.refused("floor -1", x, before, x.trade(0, 1, 1, -1), SteadyFund.BAD);
    checks.refused("floor 4", x, before, x.trade(0, 1, 1, 4), SteadyFund.BAD);
    checks.due("trade(29, 10000, 100000, 3)", x.trade(29, 10000, 100000, 3), 0);
    for (int i = 1; i < 40; i++) checks.due("trade", x.trade(0, 1, 1, 0), i);
    before = x.digest();
    checks.refused("a 41st", x, before, x.trade(0, 1, 1, 0), SteadyFund.FULL);
    checks.refused("BAD ahead of FULL", x, before, x.trade(0, 1, 1, 4), SteadyFund.BAD);
    checks.due("many(3)", x.many(3), 40);
    checks.due("many(4)", x.many(4), 40);
  }

  /** Promise 13. */
  private static void wrong() {
    SteadyFund x = new SteadyFund();
    x.day(3, 100, 110, 50);
    x.day(4, 100, 110, 50);
    x.trade(3, 100, 20, 0);
    x.trade(4, 110, 50, 0);
    x.trade(3, 111, 30, 1);
    x.trade(3, 99, 1, 2);
    x.trade(4, 105, 1, 0);
    x.trade(5, 105, 100000, 0);
    int[] due = {0, 0, 2, 6, 4, 1};
    for (int t = 0; t < due.length; t++) checks.due("wrong(" + t + ")", x.wrong(t), due[t]);
    checks.due("wrong(-1)", x.wrong(-1), SteadyFund.BAD);
    checks.due("wrong(6)", x.wrong(6), SteadyFund.BAD);
    x.trade(3, 100, 100000, 0);
    checks.due("a later TRADE moves none ahead of it", x.wrong(0), 0);
    checks.due("many(4)", x.many(4), 5);
  }

  /** Promise 14. */
  private static void first() {
    SteadyFund x = new SteadyFund();
    checks.due("none", x.first(), SteadyFund.NONE);
    x.day(9, 1, 10, 100);
    x.trade(9, 10, 60, 0);
    checks.due("none wrong", x.first(), SteadyFund.NONE);
    x.trade(9, 1, 41, 0);
    x.trade(0, 1, 41, 0);
    checks.due("as they come, not by days", x.first(), 1);
    x.day(9, 1, 10, 101);
    checks.due("the next", x.first(), 2);
    x.day(9, 1, 9, 101);
    checks.due("the first of all", x.first(), 0);
  }

  private static void fraction(SteadyFund x, String what, long above, long below) {
    checks.due(what + ": above", x.part(0), above);
    checks.due(what + ": below", x.part(1), below);
  }

  /** Promise 15. */
  private static void even() {
    SteadyFund x = new SteadyFund();
    int[][] bad = {{0, 0, 1, 2}, {19, 1, 1, 2}, {5, -1, 1, 2}, {5, 6, 1, 2}, {5, 1, 0, 2}, {5, 1, 2, 2}, {5, 1, 3, 2},
        {5, 1, 1, 11}, {5, 1, 1, 1}, {5, 1, -1, 2}, {5, 1, 1, -2}};
    for (int[] b : bad) checks.due("even, refused", x.even(b[0], b[1], b[2], b[3]), SteadyFund.BAD);
    fraction(x, "refused ones change nothing", 0, 1);
    checks.due("even(3, 2, 2, 3)", x.even(3, 2, 2, 3), 1);
    fraction(x, "(12 + 8) by 27", 20, 27);
    x.even(2, 1, 4, 10);
    fraction(x, "64 by 100, lowest terms", 16, 25);
    x.even(1, 1, 9, 10);
    fraction(x, "9 by 10", 9, 10);
    x.even(7, 0, 3, 7);
    fraction(x, "all of them", 1, 1);
    x.even(18, 9, 1, 2);
    fraction(x, "(262144 + 48620) / 2 by 262144", 155382 / 2, 262144 / 2);
    x.even(18, 18, 9, 10);
    fraction(x, "9 to the 18 by 10 to the 18", 150094635296999121L, 1000000000000000000L);
    checks.due("b is refused above 10", x.even(18, 1, 10, 11), SteadyFund.BAD);
    fraction(x, "as it was", 150094635296999121L, 1000000000000000000L);
  }

  /** Promise 16. */
  private static void funds() {
    SteadyFund x = new SteadyFund();
    checks.due("7 * 20 / 27, cut", x.funds(3, 2, 2, 3, 7), 5);
    checks.due("all", x.funds(3, 0, 2, 3, 1000000), 1000000);
    checks.due("9 to the 18: of a million", x.funds(18, 18, 9, 10, 1000000), 150094);
    checks.due("w 1", x.funds(18, 18, 9, 10, 1), 0);
    checks.due("at least 1 of 18 up, of a million", x.funds(18, 1, 9, 10, 1000000), 999999);
    checks.due("just a half", x.funds(1, 1, 1, 2, 999999), 499999);
    fraction(x, "THE FRACTION is not moved", 0, 1);
    checks.due("w 0", x.funds(3, 2, 2, 3, 0), SteadyFund.BAD);
    checks.due("w 1000001", x.funds(3, 2, 2, 3, 1000001), SteadyFund.BAD);
    checks.due("n 19", x.funds(19, 2, 2, 3, 5), SteadyFund.BAD);
    checks.due("n 0", x.funds(0, 0, 2, 3, 5), SteadyFund.BAD);
    checks.due("k above n", x.funds(3, 4, 2, 3, 5), SteadyFund.BAD);
    checks.due("a as b", x.funds(3, 2, 3, 3, 5), SteadyFund.BAD);
    checks.due("b 11", x.funds(3, 2, 2, 11, 5), SteadyFund.BAD);
  }

  /** Promise 17. */
  private static void part() {
    SteadyFund x = new SteadyFund();
    fraction(x, "at first", 0, 1);
    checks.due("part(-1)", x.part(-1), -1);
    checks.due("part(2)", x.part(2), -1);
    x.even(1, 1, 2, 6);
    fraction(x, "a third", 1, 3);
  }
}
