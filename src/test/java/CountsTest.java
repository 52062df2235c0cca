/** Promises 18 to 25: counts, TIDE and gifts. */
public final class CountsTest {
  private static final Checks checks = new Checks("CountsTest");

  public static void main(String[] args) {
    index();
    count();
    dealt();
    tide();
    moved();
    gift();
    years();
    take();
    taken();
    checks.end();
  }

  /** 0 put 1000 and drew 100; 1 put 500 and drew 800; 2 put 300; 3 did nothing. Month 2. */
  private static SteadyFund four() {
    SteadyFund x = new SteadyFund();
    x.terms(0, 50);
    x.person(0, true);
    x.person(1, true);
    x.person(2, false);
    x.person(3, false);
    x.puts(0, 1000);
    x.puts(1, 500);
    x.months(1);
    x.draws(0, 100);
    x.draws(1, 25);
    x.months(1);
    x.puts(2, 300);
    x.terms(0, 0);
    return x;
  }

  /** Promise 18. */
  private static void index() {
    SteadyFund x = four();
    checks.due("at first", x.index(0, 50), 100);
    checks.due("what it was", x.index(0, 1000), 50);
    checks.due("index(59, 1)", x.index(59, 1), 100);
    checks.due("month -1", x.index(-1, 50), SteadyFund.BAD);
    checks.due("month 60", x.index(60, 50), SteadyFund.BAD);
    checks.due("v 0", x.index(0, 0), SteadyFund.BAD);
    checks.due("v 1001", x.index(0, 1001), SteadyFund.BAD);
    checks.due("refused ones change nothing", x.index(0, 7), 1000);
  }

  /** Promise 19. */
  private static void count() {
    SteadyFund x = four();
    checks.due("IN less OUT", x.count(0, 0), 900);
    checks.due("IN less OUT", x.count(1, 0), 475);
    checks.due("none", x.count(3, 0), 0);
    checks.due("SUM", x.count(-1, 0), 900 + 475 + 300);
    checks.due("SHOWN", x.count(0, 1), 997);
    checks.due("SHOWN", x.count(1, 1), 525);
    checks.due("SUM of SHOWN", x.count(-1, 1), 997 + 525 + 300);
    x.index(0, 70);
    x.index(1, 30);
    checks.due("1000 * 100 / 70 less 100 * 100 / 30, each cut", x.count(0, 2), 1428 - 333);
    checks.due("500 * 100 / 70 less 25 * 100 / 30, each cut", x.count(1, 2), 714 - 83);
    checks.due("SUM", x.count(-1, 2), 1095 + 631 + 300);
    x.index(2, 7);
    checks.due("100 - 23", x.count(0, 2), 77);
    checks.due("by INDEX of now", x.count(-1, 2), 77 + (50 - 5) + 300);
    x.index(1, 1);
    checks.due("below 0 is 0", x.count(0, 2), 0);
    checks.due("below 0 is 0 ahead of the SUM", x.count(-1, 2), 300);
    SteadyFund y = four();
    y.terms(0, 50);
    y.months(1);
    y.draws(1, 500);
    checks.due("COUNT 0 below 0 is 0", y.count(1, 0), 0);
    checks.due("SUM of COUNTS that are 0 at least", y.count(-1, 0), 1200);
    checks.due("person -2", x.count(-2, 0), -1);
    checks.due("person 4", x.count(4, 0), -1);
    checks.due("which -1", x.count(0, -1), -1);
    checks.due("which 3", x.count(0, 3), -1);
    checks.due("which 3, of all", x.count(-1, 3), -1);
  }

  /** Promise 20. */
  private static void dealt() {
    SteadyFund x = four();
    checks.due("1000 * 900 / 1675, cut", x.dealt(0, 0, 1000), 537);
    checks.due("1000 * 475 / 1675, cut", x.dealt(1, 0, 1000), 283);
    checks.due("nobody's", x.dealt(3, 0, 1000), 0);
    checks.due("his COUNT at most", x.dealt(0, 0, 1676), 900);
    checks.due("his COUNT at most", x.dealt(2, 0, 10000000), 300);
    checks.due("by SHOWN", x.dealt(0, 1, 1000), 547);
    x.index(0, 50);
    checks.due("by INDEX: 1900 of 1900 + 975 + 300", x.dealt(0, 2, 1000), 598);
    checks.due("sum 0", x.dealt(0, 0, 0), 0);
    checks.due("without any", new SteadyFund().dealt(0, 0, 100), -1);
    SteadyFund y = new SteadyFund();
    y.person(0, true);
    for (int which = 0; which < 4; which++) checks.due("0 without any", y.dealt(0, which, 100), 0);
    checks.due("TIDE 0.45 of 1000 less 100", x.dealt(0, 3, 685), 350);
    checks.due("TIDE 0.45 of 500 less 25", x.dealt(1, 3, 685), 200);
    checks.due("TIDE 0.45 of 300", x.dealt(2, 3, 685), 135);
    checks.due("TIDE: all come whole", x.dealt(0, 3, 10000000), 900);
    checks.due("TIDE: all come whole", x.dealt(1, 3, 10000000), 475);
    checks.due("person -1", x.dealt(-1, 0, 5), -1);
    checks.due("person 4", x.dealt(4, 0, 5), -1);
    checks.due("which -1", x.dealt(0, -1, 5), -1);
    checks.due("which 4", x.dealt(0, 4, 5), -1);
    checks.due("sum -1", x.dealt(0, 0, -1), -1);
    checks.due("sum 10000001", x.dealt(0, 3, 10000001), -1);
    checks.due("THE FRACTION is not moved", x.part(1), 1);
  }

  private static void level(SteadyFund x, int sum, long above, long below) {
    checks.due("tide(" + sum + ")", x.tide(sum), 1);
    checks.due("tide(" + sum + "): above", x.part(0), above);
    checks.due("tide(" + sum + "): below", x.part(1), below);
  }

  /** Promise 21. */
  private static void tide() {
    SteadyFund x = four();
    level(x, 0, 0, 1);
    level(x, 3, 1, 100);
    level(x, 15, 1, 20);
    level(x, 16, 41, 800);
    level(x, 685, 9, 20);
    level(x, 1674, 1799, 1800);
    level(x, 1675, 1, 1);
    level(x, 10000000, 1, 1);
    checks.due("sum -1", x.tide(-1), SteadyFund.BAD);
    checks.due("sum 10000001", x.tide(10000001), SteadyFund.BAD);
    checks.due("refused ones change nothing", x.part(0), 1);
    level(new SteadyFund(), 0, 1, 1);
    SteadyFund y = four();
    y.draws(2, 300);
    level(y, 0, 1, 20);
    SteadyFund z = new SteadyFund();
    z.terms(0, 50);
    z.person(0, true);
    z.person(0, true);
    z.puts(0, 100);
    z.puts(1, 900);
    z.months(3);
    z.draws(0, 115);
    level(z, 0, 0, 1);
    level(z, 450, 1, 2);
    level(z, 900, 1, 1);
    z.draws(1, 885);
    level(z, 0, 59, 60);
    level(z, 15, 1, 1);
    checks.due("who drew more than he put gets nothing", z.dealt(0, 3, 15), 0);
  }

  /** Promise 22. */
  private static void moved() {
    SteadyFund x = four();
    checks.due("by TIDE 0, 9, 20 of 30, by parts 16, 8, 5: more", x.moved(30, 0), 6);
    checks.due("by TIDE 0, 9, 20 of 30, by parts 16, 8, 5: less", x.moved(30, 1), 1);
    checks.due("who did not draw gets more", x.moved(15, 0), 4);
    checks.due("who drew gets less", x.moved(15, 1), 3);
    checks.due("nothing to deal: nobody", x.moved(0, 0), 0);
    checks.due("nothing to deal: nobody", x.moved(0, 1), 0);
    checks.due("all come whole: nobody", x.moved(10000000, 0), 0);
    checks.due("all come whole: nobody", x.moved(10000000, 1), 0);
    checks.due("sum -1", x.moved(-1, 0), SteadyFund.BAD);
    checks.due("sum 10000001", x.moved(10000001, 0), SteadyFund.BAD);
    checks.due("which -1", x.moved(5, -1), SteadyFund.BAD);
    checks.due("which 2", x.moved(5, 2), SteadyFund.BAD);
    checks.due("THE FRACTION is not moved", x.part(0), 0);
  }

  /** Promise 23. */
  private static void gift() {
    SteadyFund x = four();
    long before = x.digest();
    checks.refused("from -1", x, before, x.gift(-1, 0, 0, 1), SteadyFund.BAD);
    checks.refused("from 4", x, before, x.gift(4, 0, 0, 1), SteadyFund.BAD);
    checks.refused("to -1", x, before, x.gift(0, -1, 0, 1), SteadyFund.BAD);
    checks.refused("to 4", x, before, x.gift(0, 4, 0, 1), SteadyFund.BAD);
    checks.refused("to himself", x, before, x.gift(1, 1, 0, 1), SteadyFund.BAD);
    checks.refused("month -1", x, before, x.gift(0, 1, -1, 1), SteadyFund.BAD);
    checks.refused("month 60", x, before, x.gift(0, 1, 60, 1), SteadyFund.BAD);
    checks.refused("sum 0", x, before, x.gift(0, 1, 0, 0), SteadyFund.BAD);
    checks.refused("sum 1000001", x, before, x.gift(0, 1, 0, 1000001), SteadyFund.BAD);
    checks.due("gift(3, 0, 59, 1000000)", x.gift(3, 0, 59, 1000000), 1);
    for (int i = 2; i <= 30; i++) checks.due("how many", x.gift(0, 1, 0, 1), i);
    before = x.digest();
    checks.refused("a 31st", x, before, x.gift(0, 1, 0, 1), SteadyFund.FULL);
    checks.refused("BAD ahead of FULL", x, before, x.gift(0, 0, 0, 1), SteadyFund.BAD);
    checks.due("many(5)", x.many(5), 30);
  }

  /** 0 of good FAITH, 1 of bad, each put 100 in month 0 and drew 10, 20, 300 in months 10, 20, 30; now is 32. */
  private static SteadyFund drawn() {
    SteadyFund x = new SteadyFund();
    x.terms(0, 50);
    x.person(0, true);
    x.person(0, false);
    x.person(0, true);
    x.puts(0, 100);
    x.puts(1, 100);
    x.puts(2, 1000);
    int[] sums = {10, 20, 300};
    for (int i = 0; i < 3; i++) {
      x.months(10);
      x.draws(0, sums[i]);
      x.draws(1, sums[i]);
    }
    x.months(2);
    return x;
  }

  /** Promise 24. */
  private static void years() {
    SteadyFund x = drawn();
    checks.due("60, 60 at first: good", x.take(0, 0), 230);
    checks.due("60, 60 at first: bad", x.take(1, 0), 330);
    checks.due("good -1", x.years(-1, 0), SteadyFund.BAD);
    checks.due("good 61", x.years(61, 0), SteadyFund.BAD);
    checks.due("bad -1", x.years(0, -1), SteadyFund.BAD);
    checks.due("bad 61", x.years(0, 61), SteadyFund.BAD);
    checks.due("refused ones change nothing", x.take(1, 0), 330);
    checks.due("years(60, 0)", x.years(60, 0), 1);
    checks.due("bad FAITH: nothing counted", x.take(1, 0), 0);
    checks.due("good FAITH: all", x.take(0, 0), 230);
    checks.due("years(1, 12)", x.years(1, 12), 1);
    checks.due("bad FAITH: MONTH 20 is just counted", x.take(1, 0), 320);
    checks.due("good FAITH: MONTH 30 is not", x.take(0, 0), 0);
    checks.due("years(2, 11)", x.years(2, 11), 1);
    checks.due("bad FAITH: MONTH 20 is not", x.take(1, 0), 300);
    checks.due("good FAITH: no more than he won", x.take(0, 0), 230);
  }

  /** Promise 25: TO TAKE. */
  private static void take() {
    SteadyFund x = drawn();
    checks.due("good FAITH, OUT less than IN", x.take(2, 0), 0);
    x.puts(1, 5000);
    x.draws(2, 1000);
    checks.due("good FAITH, OUT as IN", x.take(2, 0), 0);
    x.draws(2, 70);
    checks.due("good FAITH, OUT more than IN", x.take(2, 0), 70);
    x.years(0, 0);
    checks.due("MONTHS of now are counted", x.take(2, 0), 70);
    x.draws(1, 7);
    checks.due("bad FAITH: ROWS of now", x.take(1, 0), 7);
    checks.due("person -1", x.take(-1, 0), -1);
    checks.due("person 3", x.take(3, 0), -1);
    checks.due("which -1", x.take(0, -1), -1);
    checks.due("which 2", x.take(0, 2), -1);
  }

  /** Promise 25: TAKEN, led on by GIFTS. */
  private static void taken() {
    SteadyFund x = drawn();
    for (int p = 0; p < 3; p++) checks.due("without GIFTS as TO TAKE", x.take(p, 1), x.take(p, 0));
    x.gift(1, 2, 40, 100);
    x.gift(2, 0, 41, 30);
    checks.due("he keeps the rest", x.take(1, 1), 230);
    checks.due("on to the last", x.take(2, 1), 70);
    checks.due("on to the last", x.take(0, 1), 260);
    x.gift(1, 0, 39, 300);
    checks.due("in order of MONTHS: 300 goes first", x.take(1, 1), 0);
    checks.due("as far as that goes", x.take(2, 1), 0);
    checks.due("to the last", x.take(0, 1), 560);
    SteadyFund y = drawn();
    y.gift(2, 0, 5, 500);
    y.gift(1, 2, 5, 500);
    checks.due("in one MONTH as they come: the first leads nothing", y.take(2, 1), 330);
    checks.due("in one MONTH as they come", y.take(0, 1), 230);
    checks.due("TO TAKE stays", y.take(1, 0), 330);
  }
}
