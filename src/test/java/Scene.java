import java.util.ArrayList;
import java.util.Arrays;
import java.util.List;

/** Objects to be refused in, each made anew, and all that one answers: what is refused must change none of it. */
enum Scene {
  NEW, FILLED, FULL, FALLEN, LAST_MONTH;

  private long[] due;

  SteadyFund make() {
    return switch (this) {
      case NEW -> new SteadyFund();
      case FILLED -> filled();
      case FULL -> full();
      case FALLEN -> fallen();
      case LAST_MONTH -> lastMonth();
    };
  }

  /** That call is answered so, many, account and digest answer as before, and so does all the rest. */
  void refuses(Checks checks, long want, String name, int... a) {
    String told = this + ": " + Calls.told(name, a);
    SteadyFund x = make();
    long[] before = counted(x);
    checks.due(told, Calls.call(x, name, a), want);
    checks.holds(told + " leaves many, account and digest", Arrays.equals(before, counted(x)));
    if (due == null) due = answers(make());
    checks.holds(told + " leaves all the rest", Arrays.equals(due, answers(x)));
  }

  private static long[] counted(SteadyFund x) {
    List<Long> all = new ArrayList<>();
    count(x, all);
    return toArray(all);
  }

  private static void count(SteadyFund x, List<Long> all) {
    for (int i = 0; i <= 10; i++) all.add((long) x.many(i));
    for (int i = 0; i <= 5; i++) all.add(x.account(i));
    all.add(x.digest());
  }

  /** All that it answers, at last by going on: FEE, RATE and the IMAGES are seen no other way. */
  static long[] answers(SteadyFund x) {
    List<Long> all = new ArrayList<>();
    count(x, all);
    int persons = x.many(0), trades = x.many(3);
    for (int p = 0; p < persons; p++) askPerson(x, p, all);
    for (int i = 0; i < 3; i++) all.add(x.count(-1, i));
    for (int t = 0; t < trades; t++) all.add((long) x.wrong(t));
    for (int h = 0; h < 8; h++) all.add((long) x.pays(h, h % 2));
    for (int i = 0; i < 4; i++) all.add((long) x.rounds(i / 2, i % 2));
    for (int i = 0; i < 4; i++) all.add((long) x.whose(i));
    for (int i = 0; i < 4; i++) all.add((long) x.best(i < 2 ? 5 : 60, i % 2));
    for (int i = -1; i < 2; i++) all.add((long) x.check(i));
    for (int i = 0; i < 2; i++) all.add((long) x.moved(500, i));
    all.add(x.bound());
    goOn(x, all);
    for (int i = 0; i < 2; i++) {
      all.add((long) x.from(i));
      goOn(x, all);
    }
    return toArray(all);
  }

  private static void askPerson(SteadyFund x, int p, List<Long> all) {
    all.add(x.shown(p));
    all.add(x.count(p, 2));
    all.add(x.dealt(p, 0, 500));
    all.add(x.dealt(p, 3, 500));
    all.add(x.take(p, 0));
    all.add(x.take(p, 1));
  }

  private static void goOn(SteadyFund x, List<Long> all) {
    for (int i = 0; i < 2; i++) all.add((long) x.falls(i));
    all.add((long) x.struck(true));
    all.add((long) x.pays(1, 0));
    all.add((long) x.months(1));
    all.add(x.lost(Math.max(0, x.many(2) - 1)));
    all.add(x.digest());
  }

  private static long[] toArray(List<Long> all) {
    return all.stream().mapToLong(v -> v).toArray();
  }

  /** Something of all: four PERSONS, six ROWS, six TRADES, seven months. */
  private static SteadyFund filled() {
    SteadyFund x = new SteadyFund();
    x.image(1);
    x.terms(3, 40);
    x.person(0, true);
    x.person(1, false);
    x.person(-1, true);
    x.person(7, false);
    x.puts(0, 1000);
    x.puts(1, 1000000);
    x.months(2);
    x.puts(1, 900000);
    x.draws(0, 40);
    x.months(4);
    x.puts(2, 300);
    x.puts(3, 90);
    x.image(0);
    x.months(1);
    x.spans(0, 100, 200, 50, 300);
    x.spans(3, 10, 20, 500000, 1000000);
    x.spans(4, 10, 20, 1000000, 1000000);
    x.spans(5, 10, 20, 1000000, 1000000);
    fillPaper(x);
    fillClaims(x);
    fillHouses(x);
    Calls.rules(x, "s>c|m=2");
    x.keep();
    x.alter(1, 6);
    x.even(3, 2, 2, 3);
    return x;
  }

  /** Day 2 has a TRADE at each end of its prices, one behind each, and with the fourth just what was sold. */
  private static void fillPaper(SteadyFund x) {
    x.day(2, 10, 20, 100);
    x.trade(2, 10, 30, 0);
    x.trade(2, 20, 30, 1);
    x.trade(2, 9, 30, 2);
    x.trade(2, 21, 10, 3);
    x.trade(2, 15, 1, 0);
    x.trade(3, 15, 1, 0);
    x.hand(12, 15);
    x.hand(4, 13);
    x.hand(8, 1);
  }

  private static void fillClaims(SteadyFund x) {
    x.index(0, 90);
    x.index(7, 120);
    x.gift(0, 1, 2, 50);
    x.gift(1, 2, 2, 30);
    x.years(4, 5);
    x.suit(500, 100, 4);
    x.suit(300, 20, 2);
    x.suit(250, 10, 2);
    x.letter(0, 1, 2);
    x.letter(3, 0, -1);
  }

  private static void fillHouses(SteadyFund x) {
    x.coin(0, 3000);
    x.coin(1, 40);
    x.due(0, 1, 500);
    x.due(1, 2, 700);
    x.due(2, 0, 400);
    x.due(2, 1, 100);
  }

  /** The last one that fits of all that comes in a number. */
  private static SteadyFund full() {
    SteadyFund x = new SteadyFund();
    for (int i = 0; i < 12; i++) x.person(i % 9 - 1, i % 2 == 0);
    for (int i = 0; i < 96; i++) x.puts(i % 12, 100 + i);
    x.months(12);
    for (int i = 0; i < 4; i++) x.draws(i, 9);
    for (int i = 0; i < 40; i++) x.trade(i % 30, 1 + i, 1 + i, i % 4);
    for (int i = 0; i < 30; i++) x.gift(i % 12, (i + 1) % 12, i, 1 + i);
    for (int i = 0; i < 20; i++) x.letter(i % 4, i, i % 3 == 0 ? -1 : i);
    for (int i = 0; i < 40; i++) x.write(i == 39 ? 'm' : '!');
    for (int i = 0; i < 8; i++) x.hand(15 << i, 1 + i);
    for (int i = 0; i < 8; i++) x.suit(10 + i, i, 1 + i);
    return x;
  }

  private static SteadyFund fallen() {
    SteadyFund x = new SteadyFund();
    x.person(0, true);
    x.person(1, true);
    x.puts(0, 1000);
    x.puts(1, 1000);
    x.image(0);
    x.months(3);
    x.draws(0, 1030);
    x.draws(1, 971);
    x.image(1);
    return x;
  }

  private static SteadyFund lastMonth() {
    SteadyFund x = new SteadyFund();
    x.person(0, true);
    x.puts(0, 5000);
    x.terms(1, 2);
    for (int i = 0; i < 4; i++) x.months(12);
    x.image(0);
    x.months(11);
    x.image(1);
    return x;
  }
}
