/** Terms 3, promises 18 to 25: the edges of COUNTS, of what is DEALT and by TIDE, of GIFTS and of what is TAKEN. */
public final class EdgesOfCountsTest {
  private static final Checks checks = new Checks("EdgesOfCountsTest");
  private static final int BAD = SteadyFund.BAD, MOST = 1000000, MOST_DEALT = 10000000;

  public static void main(String[] args) {
    indexAtItsEnds();
    indexOfEachMonth();
    belowZeroIsZero();
    eachRowIsCut();
    greatestCounts();
    sumsOfAll();
    dealtIsCut();
    dealtAtMostHisCount();
    dealtWithoutAny();
    tideNoMoreThanToDeal();
    tideOfNothing();
    tideOneAtMost();
    tideUncutThenCut();
    tideOfTwelveSteps();
    outOfMonthZero();
    movedMoreOrLess();
    movedByCountZero();
    movedBits();
    giftAsFarAsItGoes();
    giftsInOrder();
    giftsToTheLast();
    giftsAtTheirEnds();
    monthsNoLess();
    yearsOfEachFaith();
    noMoreThanOutLessIn();
    checks.end();
  }

  /** PERSONS of bad FAITH who put in so much in month 0 and drew so much in month 12, which is now. */
  private static SteadyFund of(int[] in, int[] out) {
    SteadyFund x = new SteadyFund();
    x.terms(0, 50);
    for (int p = 0; p < in.length; p++) {
      x.person(p % 8, false);
      if (in[p] > 0) x.puts(p, in[p]);
    }
    x.months(12);
    x.terms(0, 0);
    for (int p = 0; p < out.length; p++) {
      if (out[p] > 0) checks.due("OUT of " + p, x.draws(p, out[p]), 1);
    }
    return x;
  }

  private static int[] n(int... numbers) {
    return numbers;
  }

  /** "INDEX by MONTH 1 .. 1000; 100 at first", "times INDEX now by INDEX of its MONTH, cut". */
  private static void indexAtItsEnds() {
    int[][] rows = {{1000, 1, 999, 0}, {1000, 1, 1000, 1}, {1000, 1, 1999, 1}, {1, 1000, 1, 1000}, {1, 1000, MOST, 1000000000},
        {100, 100, 77, 77}, {1000, 1000, MOST, MOST}, {3, 2, 1, 0}, {3, 2, 2, 1}, {1, 1, 5, 5}};
    for (int[] row : rows) {
      SteadyFund x = of(n(row[2]), n());
      checks.due("100 at first", x.index(0, row[0]), 100);
      checks.due("100 at first", x.index(12, row[1]), 100);
      checks.due(row[2] + " * " + row[1] + " / " + row[0], x.count(0, 2), row[3]);
      checks.due("what it was", x.index(0, 5), row[0]);
      checks.due("what it was", x.index(12, 5), row[1]);
      checks.due("alike again", x.count(0, 2), row[2]);
    }
  }

  /** MONTHS 0 .. 59: of each its own; a ROW of now goes by its own INDEX. */
  private static void indexOfEachMonth() {
    SteadyFund x = new SteadyFund();
    x.person(0, true);
    for (int m = 0; m < 60; m++) {
      checks.due("index", x.index(m, 1 + m), 100);
      checks.due("a ROW of now", x.puts(0, 60), m);
      if (m < 59) x.months(1);
    }
    long all = 0;
    for (int m = 0; m < 60; m++) all += 60 * 60 / (1 + m);
    checks.due("each ROW by its MONTH", x.count(0, 2), all);
    for (int m = 0; m < 60; m++) checks.due("kept", x.index(m, 100), 1 + m);
    checks.due("as COUNT 0 then", x.count(0, 2), 3600);
  }

  /** "below 0 is 0": 1, 0 and what would be one less, which is no refusal. */
  private static void belowZeroIsZero() {
    for (int out = 99; out <= 101; out++) {
      SteadyFund x = of(n(100, 50), n(out));
      long due = Math.max(0, 100 - out);
      checks.due("COUNT 0 of 100 less " + out, x.count(0, 0), due);
      checks.due("COUNT 2 of 100 less " + out, x.count(0, 2), due);
      checks.due("SUM of COUNT 0", x.count(-1, 0), due + 50);
      checks.due("SUM of COUNT 2", x.count(-1, 2), due + 50);
    }
    SteadyFund x = of(n(100), n(10));
    x.index(0, 1000);
    checks.due("10 less 10", x.count(0, 2), 0);
    x.index(0, 999);
    checks.due("10 less 10", x.count(0, 2), 0);
    x.index(0, 901);
    checks.due("11 less 10", x.count(0, 2), 1);
    x.index(12, 91);
    checks.due("10 less 10, by INDEX of now", x.count(0, 2), 0);
    x.index(12, 1);
    checks.due("0 less 10", x.count(0, 2), 0);
    checks.due("COUNT 0 is another", x.count(0, 0), 90);
  }

  /** "each ROW's sum times INDEX now by INDEX of its MONTH, cut": not the sum of them, and OUT toward 0, too. */
  private static void eachRowIsCut() {
    SteadyFund x = new SteadyFund();
    x.person(0, true);
    for (int i = 0; i < 3; i++) x.puts(0, 1);
    x.puts(0, 5);
    x.draws(0, 1);
    x.months(1);
    x.index(0, 2);
    x.index(1, 1);
    checks.due("0, 0, 0, 2 less 0", x.count(0, 2), 2);
    x.draws(0, 2);
    checks.due("less 2 of now", x.count(0, 2), 0);
  }

  /** 100 ROWS of the greatest sum by the greatest INDEX: beyond an int. */
  private static void greatestCounts() {
    SteadyFund x = new SteadyFund();
    x.person(0, true);
    x.person(0, true);
    for (int i = 0; i < 100; i++) x.puts(i % 2, MOST);
    x.months(1);
    x.index(0, 1);
    x.index(1, 1000);
    checks.due("COUNT 2", x.count(0, 2), 50000000000L);
    checks.due("SUM", x.count(-1, 2), 100000000000L);
    checks.due("the most, dealt by it", x.dealt(0, 2, MOST_DEALT), MOST_DEALT / 2);
    checks.due("cut", x.dealt(1, 2, MOST_DEALT - 1), MOST_DEALT / 2 - 1);
    checks.due("COUNT 0", x.count(-1, 0), 100000000);
    checks.due("dealt by COUNT 0", x.dealt(1, 0, MOST_DEALT), MOST_DEALT / 2);
    checks.due("by TIDE", x.dealt(1, 3, MOST_DEALT), MOST_DEALT / 2);
  }

  /** "SUMS of all": of none, of one, of twelve; a PERSON is not NONE. */
  private static void sumsOfAll() {
    SteadyFund x = new SteadyFund();
    for (int which = 0; which < 3; which++) checks.due("of none", x.count(-1, which), 0);
    for (int p = 0; p < 12; p++) {
      x.person(-1, true);
      checks.due("COUNT of one with nothing", x.count(p, 0), 0);
      x.puts(p, 1 << p);
      for (int which = 0; which < 3; which++) {
        checks.due("COUNT of " + p, x.count(p, which), 1 << p);
        checks.due("SUM", x.count(-1, which), (2 << p) - 1);
        checks.due("not NONE, nor a PERSON", x.count(-2, which), -1);
        checks.due("not yet a PERSON", x.count(p + 1, which), -1);
      }
    }
  }

  /** "to each that times his COUNT by the SUM, cut": 0, what just comes out even, and one less. */
  private static void dealtIsCut() {
    SteadyFund x = of(n(100, 50), n());
    int[][] rows = {{0, 0, 0}, {1, 0, 0}, {2, 1, 0}, {3, 2, 1}, {4, 2, 1}, {148, 98, 49}, {149, 99, 49}, {150, 100, 50}};
    for (int[] row : rows) {
      for (int which = 0; which < 3; which += 2) {
        checks.due(row[0] + " to 0", x.dealt(0, which, row[0]), row[1]);
        checks.due(row[0] + " to 1", x.dealt(1, which, row[0]), row[2]);
      }
    }
    SteadyFund y = of(n(100, 100), n(0, 173));
    checks.due("SHOWN of 0", y.shown(0), 173);
    checks.due("nothing is SHOWN to 1", y.dealt(1, 1, 5000), 0);
    checks.due("all that is SHOWN", y.dealt(0, 1, 172), 172);
  }

  /** "(his COUNT at most)": by just the SUM, one more, and the most. */
  private static void dealtAtMostHisCount() {
    SteadyFund x = of(n(100, 50), n());
    for (int sum : n(150, 151, 300, MOST_DEALT)) {
      checks.due(sum + " to 0", x.dealt(0, 0, sum), 100);
      checks.due(sum + " to 1", x.dealt(1, 2, sum), 50);
      checks.due(sum + " by SHOWN", x.dealt(1, 1, MOST_DEALT), x.shown(1));
    }
  }

  /** "0 without any": no COUNT of his, none of all. */
  private static void dealtWithoutAny() {
    SteadyFund x = of(n(0, 0), n());
    for (int which = 0; which < 4; which++) {
      checks.due("none of all", x.dealt(0, which, 0), 0);
      checks.due("none of all", x.dealt(1, which, MOST_DEALT), 0);
    }
    x.puts(1, 5);
    for (int which = 0; which < 4; which++) {
      checks.due("none of his", x.dealt(0, which, MOST_DEALT), 0);
      checks.due("the other's", x.dealt(1, which, MOST_DEALT), 5);
    }
    checks.due("nobody there", x.dealt(2, 0, 5), -1);
  }

  private static void tide(SteadyFund x, int sum, long above, long below, int... paid) {
    checks.due("tide(" + sum + ")", x.tide(sum), 1);
    checks.due("L above, of " + sum, x.part(0), above);
    checks.due("L below, of " + sum, x.part(1), below);
    for (int p = 0; p < paid.length; p++) checks.due("to " + p + ", of " + sum, x.dealt(p, 3, sum), paid[p]);
  }

  /** "the greatest fraction by which that is together (uncut) no more than what is to deal": up to who drew, and beyond. */
  private static void tideNoMoreThanToDeal() {
    SteadyFund x = of(n(100, 100), n(0, 50));
    tide(x, 0, 0, 1, 0, 0);
    tide(x, 1, 1, 100, 1, 0);
    tide(x, 49, 49, 100, 49, 0);
    tide(x, 50, 1, 2, 50, 0);
    tide(x, 51, 101, 200, 50, 0);
    tide(x, 52, 51, 100, 51, 1);
    tide(x, 148, 99, 100, 99, 49);
    tide(x, 149, 199, 200, 99, 49);
    SteadyFund y = of(n(100, 200, 400), n(90, 100, 0));
    tide(y, 199, 199, 400, 0, 0, 199);
    tide(y, 200, 1, 2, 0, 0, 200);
    tide(y, 201, 301, 600, 0, 0, 200);
    tide(y, 439, 539, 600, 0, 79, 359);
    tide(y, 440, 9, 10, 0, 80, 360);
    tide(y, 441, 631, 700, 0, 80, 360);
    tide(y, 509, 699, 700, 9, 99, 399);
  }

  /** Nothing to deal: L is the greatest by which none gets any yet. */
  private static void tideOfNothing() {
    tide(of(n(100, 100), n(50, 60)), 0, 1, 2, 0, 0);
    tide(of(n(100, 100), n(99, 98)), 0, 49, 50, 0, 0);
    tide(of(n(100, 100), n(100, 98)), 1, 99, 100, 0, 1);
    tide(of(n(100, 300), n(120, 0)), 0, 0, 1, 0, 0);
    tide(of(n(100, 0), n(30, 0)), 0, 3, 10, 0, 0);
  }

  /** "1 at most": by just all, one more and the most; where none put in, and where none is left that could get any. */
  private static void tideOneAtMost() {
    for (int sum : n(150, 151, MOST_DEALT)) tide(of(n(100, 100), n(0, 50)), sum, 1, 1, 100, 50);
    for (int sum : n(0, 1, MOST_DEALT)) {
      tide(new SteadyFund(), sum, 1, 1);
      tide(of(n(0, 0), n()), sum, 1, 1, 0, 0);
    }
    SteadyFund x = of(n(100, 300), n(120, 0));
    tide(x, 299, 299, 300, 0, 299);
    tide(x, 300, 1, 1, 0, 300);
    tide(x, 301, 1, 1, 0, 300);
    SteadyFund y = of(n(100, 100), n(100, 100));
    for (int sum : n(0, 1, MOST_DEALT)) tide(y, sum, 1, 1, 0, 0);
    SteadyFund z = of(n(100, 200), n(150, 150));
    tide(z, 0, 3, 4, 0, 0);
    tide(z, 49, 199, 200, 0, 49);
    tide(z, 50, 1, 1, 0, 50);
  }

  /** "(uncut)"; "each is cut then": what is paid may be less than what was to deal. */
  private static void tideUncutThenCut() {
    SteadyFund x = of(n(1, 1, 1), n());
    tide(x, 0, 0, 1, 0, 0, 0);
    tide(x, 1, 1, 3, 0, 0, 0);
    tide(x, 2, 2, 3, 0, 0, 0);
    tide(x, 3, 1, 1, 1, 1, 1);
    SteadyFund y = of(n(7, 11, 13), n());
    tide(y, 30, 30, 31, 6, 10, 12);
    tide(y, 31, 1, 1, 7, 11, 13);
  }

  private static void putAll(SteadyFund x, int person, int sum) {
    for (int left = sum; left > 0; left -= MOST) x.puts(person, Math.min(MOST, left));
  }

  private static void drawAll(SteadyFund x, int person, int sum) {
    for (int left = sum; left > 0; left -= MOST) checks.due("OUT", x.draws(person, Math.min(MOST, left)), 1);
  }

  /** PERSON p is reached at p + 1 by 13 and put in thrice as much as the one ahead: L goes down a step for each. */
  private static void tideOfTwelveSteps() {
    SteadyFund x = new SteadyFund();
    x.terms(0, 50);
    int[] power = new int[12];
    for (int p = 0; p < 12; p++) {
      power[p] = p == 0 ? 1 : 3 * power[p - 1];
      x.person(-1, true);
      putAll(x, p, 13 * power[p]);
    }
    for (int p = 0; p < 12; p++) drawAll(x, p, (p + 1) * power[p]);
    tide(x, 0, 1, 13, new int[12]);
    tide(x, 1, 2, 13, 1, 0, 0);
    long sum = 0;
    for (int steps = 1; steps <= 12; steps++) {
      sum = 0;
      for (int p = 0; p < steps; p++) sum += (steps - p) * power[p];
      tide(x, (int) sum, steps == 12 ? 1 : steps + 1, steps == 12 ? 1 : 13, steps, 3 * (steps - 1));
      checks.due("the next is just not reached", x.dealt(Math.min(11, steps), 3, (int) sum), steps == 12 ? power[11] : 0);
    }
  }

  /** "all he put IN", "all his OUT": those of month 0, too. */
  private static void outOfMonthZero() {
    SteadyFund x = new SteadyFund();
    x.terms(0, 50);
    x.person(0, true);
    x.person(0, false);
    x.puts(0, 100);
    x.puts(1, 100);
    x.draws(0, 50);
    tide(x, 60, 11, 20, 5, 55);
    x.months(12);
    tide(x, 60, 11, 20, 5, 55);
    checks.due("COUNT 0", x.count(0, 0), 50);
    checks.due("OUT 50 less IN 100", x.take(0, 0), 0);
    x.draws(0, 60);
    checks.due("OUT 110 less IN 100", x.take(0, 0), 10);
  }

  /** "PERSONS who get more by TIDE than DEALT by COUNT 0 (bits), less": as much is neither. */
  private static void movedMoreOrLess() {
    SteadyFund x = of(n(100, 100), n(0, 50));
    int[][] rows = {{0, 0, 0}, {1, 1, 0}, {3, 1, 2}, {50, 1, 2}, {148, 1, 0}, {149, 0, 0}, {150, 0, 0}, {151, 0, 0}, {MOST_DEALT, 0, 0}};
    for (int[] row : rows) {
      checks.due("more, of " + row[0], x.moved(row[0], 0), row[1]);
      checks.due("less, of " + row[0], x.moved(row[0], 1), row[2]);
    }
    SteadyFund y = of(n(100, 0, 100), n());
    for (int sum : n(0, 1, 2, 77, 200)) {
      checks.due("alike: none more", y.moved(sum, 0), 0);
      checks.due("alike: none less", y.moved(sum, 1), 0);
    }
  }

  /** "DEALT by COUNT 0": neither INDEX nor what is SHOWN moves it. */
  private static void movedByCountZero() {
    SteadyFund x = of(n(100, 100), n());
    x.puts(0, 100);
    checks.due("as put in, 200 by 100: none more", x.moved(150, 0), 0);
    x.index(0, 1);
    checks.due("by INDEX 1 gets nearly all", x.dealt(1, 2, 150), 74);
    checks.due("none more", x.moved(150, 0), 0);
    checks.due("none less", x.moved(150, 1), 0);
  }

  /** All twelve bits. */
  private static void movedBits() {
    int[] in = new int[12], out = new int[12];
    for (int p = 0; p < 12; p++) {
      in[p] = 1000;
      out[p] = p % 2 == 0 ? 500 : 0;
    }
    SteadyFund x = of(in, out);
    checks.due("more", x.moved(3000, 0), 2730);
    checks.due("less", x.moved(3000, 1), 1365);
    checks.due("nobody: more", new SteadyFund().moved(5, 0), 0);
    checks.due("nobody: less", new SteadyFund().moved(5, 1), 0);
  }

  private static void taken(SteadyFund x, String what, int... due) {
    for (int p = 0; p < due.length; p++) checks.due(what + ": TAKEN from " + p, x.take(p, 1), due[p]);
  }

  /** "goes on with a GIFT as far as that goes: he keeps the rest": one less than he has, just that, one more. */
  private static void giftAsFarAsItGoes() {
    for (int sum = 99; sum <= 101; sum++) {
      SteadyFund x = of(n(500, 500), n(100));
      checks.due("how many", x.gift(0, 1, 12, sum), 1);
      taken(x, "a GIFT of " + sum, Math.max(0, 100 - sum), Math.min(100, sum));
      checks.due("TO TAKE stays", x.take(0, 0), 100);
      checks.due("TO TAKE stays", x.take(1, 0), 0);
    }
    SteadyFund x = of(n(500, 500), n(100));
    x.gift(0, 1, 12, 1);
    taken(x, "the least", 99, 1);
    x.gift(0, 1, 12, MOST);
    taken(x, "the greatest", 0, 100);
    x.gift(1, 0, 12, MOST);
    taken(x, "and back", 100, 0);
    SteadyFund y = of(n(500, 500), n(0, 30));
    y.gift(0, 1, 0, 50);
    taken(y, "who has nothing to give back", 0, 30);
  }

  /** "by GIFTS in order of MONTHS, then as they come". */
  private static void giftsInOrder() {
    SteadyFund x = of(n(500, 500, 500), n(100));
    x.gift(1, 2, 6, 40);
    x.gift(0, 1, 7, 60);
    taken(x, "one MONTH too late", 40, 60, 0);
    x = of(n(500, 500, 500), n(100));
    x.gift(1, 2, 7, 40);
    x.gift(0, 1, 7, 60);
    taken(x, "of one MONTH, as they come", 40, 60, 0);
    x = of(n(500, 500, 500), n(100));
    x.gift(0, 1, 7, 60);
    x.gift(1, 2, 7, 40);
    taken(x, "of one MONTH, as they come", 40, 20, 40);
    x = of(n(500, 500, 500), n(100));
    x.gift(1, 2, 8, 40);
    x.gift(0, 1, 7, 60);
    taken(x, "in order of MONTHS", 40, 20, 40);
    x.gift(0, 2, 6, 100);
    taken(x, "in order of MONTHS", 0, 0, 100);
  }

  /** "through gifts to the last": a chain of all twelve, and round. */
  private static void giftsToTheLast() {
    int[] in = new int[12];
    for (int p = 0; p < 12; p++) in[p] = 100;
    SteadyFund x = of(in, n(90));
    for (int p = 0; p < 11; p++) x.gift(p, p + 1, p, 90 - p);
    int[] due = new int[12];
    for (int p = 0; p < 11; p++) due[p] = p == 0 ? 0 : 1;
    due[11] = 80;
    taken(x, "to the last", due);
    x.gift(11, 0, 59, 70);
    due[11] = 10;
    due[0] = 70;
    taken(x, "and round", due);
  }

  /** "in a MONTH": 0 .. 59, be it over or not; "30 at most". */
  private static void giftsAtTheirEnds() {
    SteadyFund x = of(n(500, 500, 500), n(100));
    x.gift(1, 2, 59, 10);
    x.gift(0, 1, 0, 10);
    taken(x, "of MONTHS 0 and 59", 90, 0, 10);
    for (int i = 3; i <= 30; i++) checks.due("how many", x.gift(0, 1, 59, 1), i);
    taken(x, "all 30", 62, 28, 10);
    checks.due("a 31st", x.gift(0, 1, 59, 1), SteadyFund.FULL);
    taken(x, "no 31st", 62, 28, 10);
    checks.due("to himself", x.gift(1, 1, 59, 1), BAD);
  }

  /** "ROWS OUT of MONTHS no less than now less that", by each of 0 .. 60 months, 60 at first. */
  private static void monthsNoLess() {
    SteadyFund x = new SteadyFund();
    x.terms(0, 0);
    x.person(0, false);
    x.puts(0, 1000);
    for (int m = 0; m < 60; m++) {
      x.draws(0, 1);
      checks.due("60 at first: all", x.take(0, 0), m + 1);
      if (m < 59) x.months(1);
    }
    for (int y = 0; y <= 60; y++) {
      checks.due("years", x.years(0, y), 1);
      checks.due("MONTHS from 59 less " + y, x.take(0, 0), Math.min(60, y + 1));
    }
    SteadyFund z = new SteadyFund();
    z.person(0, false);
    z.puts(0, 1000);
    z.years(0, 60);
    z.draws(0, 5);
    checks.due("now less 60 is below 0", z.take(0, 0), 5);
    z.years(0, 0);
    checks.due("of now", z.take(0, 0), 5);
    z.months(1);
    checks.due("of now no more", z.take(0, 0), 0);
  }

  /** "0 .. 60 months for good FAITH, for bad": each by its own. */
  private static void yearsOfEachFaith() {
    SteadyFund x = new SteadyFund();
    x.terms(0, 50);
    x.person(0, true);
    x.person(0, false);
    for (int p = 0; p < 2; p++) x.puts(p, 20);
    x.person(0, true);
    x.puts(2, 1000);
    x.months(12);
    x.months(12);
    for (int p = 0; p < 2; p++) x.draws(p, 17);
    x.months(5);
    for (int p = 0; p < 2; p++) x.draws(p, 8);
    int[][] rows = {{60, 60, 5, 25}, {5, 5, 5, 25}, {4, 5, 5, 25}, {5, 4, 5, 8}, {0, 60, 5, 25}, {60, 0, 5, 8}, {0, 0, 5, 8}};
    for (int[] row : rows) {
      checks.due("years", x.years(row[0], row[1]), 1);
      checks.due("good", x.take(0, 0), row[2]);
      checks.due("bad", x.take(1, 0), row[3]);
    }
    x.months(1);
    x.years(0, 1);
    checks.due("good: none is counted", x.take(0, 0), 0);
    checks.due("bad", x.take(1, 0), 8);
    x.years(1, 0);
    checks.due("good", x.take(0, 0), 5);
    checks.due("bad: none is counted", x.take(1, 0), 0);
    x.years(5, 5);
    checks.due("good", x.take(0, 0), 5);
    x.years(0, 6);
    checks.due("bad: all are", x.take(1, 0), 25);
  }

  /** "no more than all his OUT less all his IN (0 at least)": one less, as much, one more; IN that comes later counts. */
  private static void noMoreThanOutLessIn() {
    for (int out = 99; out <= 102; out++) {
      SteadyFund x = new SteadyFund();
      x.terms(0, 50);
      x.person(0, true);
      x.person(0, false);
      x.puts(0, 100);
      x.puts(1, 500);
      x.months(12);
      x.draws(0, out);
      checks.due("OUT " + out + " less IN 100", x.take(0, 0), Math.max(0, out - 100));
      x.puts(0, 1);
      checks.due("OUT " + out + " less IN 101", x.take(0, 0), Math.max(0, out - 101));
      x.draws(1, 50);
      checks.due("of bad FAITH all", x.take(1, 0), 50);
    }
  }
}
