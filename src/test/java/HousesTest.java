/** Promises 26 to 30: houses. */
public final class HousesTest {
  private static final Checks checks = new Checks("HousesTest");

  public static void main(String[] args) {
    coin();
    due();
    struck();
    pays();
    rounds();
    manyRounds();
    checks.end();
  }

  /** Promise 26. */
  private static void coin() {
    SteadyFund x = new SteadyFund();
    long before = x.digest();
    checks.refused("house -1", x, before, x.coin(-1, 0), SteadyFund.BAD);
    checks.refused("house 8", x, before, x.coin(8, 0), SteadyFund.BAD);
    checks.refused("v -1", x, before, x.coin(0, -1), SteadyFund.BAD);
    checks.refused("v 1000001", x, before, x.coin(0, 1000001), SteadyFund.BAD);
    checks.due("at first 0", x.coin(7, 1000000), 0);
    checks.due("what it was", x.coin(7, 5), 1000000);
    checks.due("what it was", x.coin(7, 0), 5);
    checks.due("the others", x.coin(0, 0), 0);
  }

  /** Promise 27. */
  private static void due() {
    SteadyFund x = new SteadyFund();
    long before = x.digest();
    checks.refused("from -1", x, before, x.due(-1, 0, 1), SteadyFund.BAD);
    checks.refused("from 8", x, before, x.due(8, 0, 1), SteadyFund.BAD);
    checks.refused("to -1", x, before, x.due(0, -1, 1), SteadyFund.BAD);
    checks.refused("to 8", x, before, x.due(0, 8, 1), SteadyFund.BAD);
    checks.refused("alike", x, before, x.due(3, 3, 1), SteadyFund.BAD);
    checks.refused("v -1", x, before, x.due(0, 1, -1), SteadyFund.BAD);
    checks.refused("v 10001", x, before, x.due(0, 1, 10001), SteadyFund.BAD);
    checks.due("at first 0", x.due(0, 7, 10000), 0);
    checks.due("what it was", x.due(0, 7, 3), 10000);
    checks.due("the other way", x.due(7, 0, 4), 0);
    checks.due("what it was", x.due(0, 7, 0), 3);
    checks.due("what it was", x.due(7, 0, 0), 4);
  }

  /** Promise 28. */
  private static void struck() {
    SteadyFund x = new SteadyFund();
    x.terms(0, 50);
    x.person(2, true);
    x.person(2, false);
    x.person(-1, true);
    x.person(5, true);
    x.puts(0, 300);
    x.puts(1, 50);
    x.puts(2, 1000);
    x.puts(3, 400);
    x.months(6);
    x.draws(1, 60);
    x.coin(2, 1000);
    x.coin(5, 399);
    x.coin(6, 7);
    for (int h = 0; h < 8; h++) x.due(h, (h + 1) % 8, 0);
    x.due(2, 0, 10000);
    x.due(5, 0, 10000);
    x.due(6, 0, 10000);
    checks.due("not struck", x.pays(2, 0), 1000);
    checks.due("struck(false), so it is", x.struck(false), SteadyFund.NO);
    checks.due("struck(true)", x.struck(true), 1);
    checks.due("struck(true), so it is", x.struck(true), SteadyFund.NO);
    checks.due("less COUNT 0 of its PERSONS: 300 and 0", x.pays(2, 0), 700);
    checks.due("0 at least", x.pays(5, 0), 0);
    checks.due("no PERSON of it", x.pays(6, 0), 7);
    checks.due("own COIN stays", x.coin(2, 1000), 1000);
    x.puts(0, 100);
    checks.due("as COUNTS are now", x.pays(2, 1), 600);
    x.draws(3, 100);
    checks.due("as COUNTS are now", x.pays(5, 1), 99);
    checks.due("struck(false)", x.struck(false), 1);
    checks.due("as ahead of it", x.pays(2, 1), 1000);
  }

  /** Promise 29. */
  private static void pays() {
    SteadyFund x = new SteadyFund();
    checks.due("house -1", x.pays(-1, 0), SteadyFund.BAD);
    checks.due("house 8", x.pays(8, 0), SteadyFund.BAD);
    checks.due("which -1", x.pays(0, -1), SteadyFund.BAD);
    checks.due("which 2", x.pays(0, 2), SteadyFund.BAD);
    x.due(0, 1, 100);
    x.due(1, 0, 100);
    checks.due("THE LEAST of two that owe each other", x.pays(0, 0), 0);
    checks.due("THE GREATEST of two that owe each other", x.pays(0, 1), 100);
    x.due(0, 2, 50);
    checks.due("THE GREATEST: each lap a third is lost, cut", x.pays(0, 1), 0);
    x.coin(0, 10);
    checks.due("THE LEAST: 10, of it 6 back, 16, of it 10 back, 20 ..", x.pays(0, 0), 28);
    checks.due("THE GREATEST stops higher", x.pays(0, 1), 30);
    checks.due("what the other pays", x.pays(1, 0), 18);
    checks.due("what the other pays", x.pays(1, 1), 20);
    x.coin(0, 1000);
    checks.due("no more than its DUES", x.pays(0, 0), 150);
    checks.due("no more than its DUES", x.pays(1, 1), 100);
    checks.due("who owes nothing pays nothing", x.pays(2, 1), 0);
    SteadyFund y = new SteadyFund();
    y.coin(0, 10);
    y.due(0, 1, 1);
    y.due(0, 2, 2);
    y.due(0, 3, 4);
    y.due(1, 4, 100);
    y.due(2, 4, 100);
    y.due(3, 4, 100);
    y.coin(0, 5);
    checks.due("5 * 1 / 7, cut", y.pays(1, 0), 0);
    checks.due("5 * 2 / 7, cut", y.pays(2, 0), 1);
    checks.due("5 * 4 / 7, cut", y.pays(3, 1), 2);
  }

  /** Promise 30. */
  private static void rounds() {
    SteadyFund x = new SteadyFund();
    checks.due("nothing changes", x.rounds(0, 0), 0);
    checks.due("nothing changes", x.rounds(1, 0), 0);
    checks.due("none fallen", x.rounds(0, 1), 0);
    checks.due("none fallen", x.rounds(1, 1), 0);
    x.due(0, 1, 10);
    x.due(1, 2, 10);
    x.due(2, 3, 10);
    checks.due("THE LEAST: nothing comes", x.rounds(0, 0), 0);
    checks.due("THE GREATEST: it goes down house by house", x.rounds(1, 0), 3);
    checks.due("fallen", x.rounds(0, 1), 7);
    checks.due("fallen", x.rounds(1, 1), 7);
    x.coin(0, 10);
    checks.due("THE LEAST: it goes up house by house", x.rounds(0, 0), 3);
    checks.due("THE GREATEST: all is paid", x.rounds(1, 0), 0);
    checks.due("none fallen", x.rounds(0, 1), 0);
    x.coin(0, 9);
    x.coin(1, 1);
    checks.due("who pays 9 of 10 has fallen", x.rounds(1, 1), 1);
    checks.due("who pays 9 of 10 has fallen", x.rounds(0, 1), 1);
    checks.due("which -1", x.rounds(-1, 0), SteadyFund.BAD);
    checks.due("which 2", x.rounds(2, 0), SteadyFund.BAD);
    checks.due("what -1", x.rounds(0, -1), SteadyFund.BAD);
    checks.due("what 2", x.rounds(0, 2), SteadyFund.BAD);
  }

  /** A ring in which a shekel goes round and one more joins it each lap. */
  private static void manyRounds() {
    SteadyFund x = new SteadyFund();
    for (int h = 0; h < 8; h++) x.due(h, (h + 1) % 8, 10000);
    x.coin(0, 1);
    checks.due("8 rounds for each of 10000 shekels", x.rounds(0, 0), 80000);
    checks.due("all is paid", x.pays(7, 0), 10000);
    checks.due("THE GREATEST: nothing changes", x.rounds(1, 0), 0);
    SteadyFund y = new SteadyFund();
    for (int h = 0; h < 8; h++) y.due(h, (h + 1) % 8, 10000);
    y.due(0, 4, 1);
    checks.due("THE GREATEST: it shrinks by 1 a lap or less", y.pays(0, 1), 0);
    checks.holds("many rounds", y.rounds(1, 0) > 1000);
  }
}
