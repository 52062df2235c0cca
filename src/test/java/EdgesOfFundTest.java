/** Terms 1, promises 1 to 10: what the document says of the fund where something begins, ends or just is not so. */
public final class EdgesOfFundTest {
  private static final Checks checks = new Checks("EdgesOfFundTest");
  private static final int BAD = SteadyFund.BAD, NO = SteadyFund.NO, NONE = SteadyFund.NONE, MOST = 1000000;

  public static void main(String[] args) {
    nowAtFirst();
    personsAsTheyCome();
    in();
    outNoMoreThanShown();
    outNoMoreThanCoin();
    fallsInItsMonth();
    fallenForGood();
    fallenIsAllElseAsEver();
    feeIsCut();
    eachShownIsCut();
    termsAtTheirEnds();
    monthsOneByOne();
    monthsAtTheirEnds();
    rowsThatWerePaid();
    greatestOfAll();
    belowZero();
    upToTheIth();
    leastAndMost();
    spansAtTheirEnds();
    spansWithoutFee();
    checks.end();
  }

  private static SteadyFund withTwo() {
    SteadyFund x = new SteadyFund();
    x.person(0, true);
    x.person(1, false);
    return x;
  }

  private static void is(SteadyFund x, String what, long coin, long shown0, long shown1) {
    checks.due(what + ": COIN", x.account(0), coin);
    checks.due(what + ": SHOWN of 0", x.shown(0), shown0);
    checks.due(what + ": SHOWN of 1", x.shown(1), shown1);
    checks.due(what + ": SHOWN of all", x.account(1), shown0 + shown1);
  }

  /** "now is 0 at first", "COIN, 0 at first", "a SHOWN number, 0 at first". */
  private static void nowAtFirst() {
    SteadyFund x = withTwo();
    checks.due("now", x.many(2), 0);
    is(x, "at first", 0, 0, 0);
    x.months(12);
    is(x, "of nothing comes nothing", 0, 0, 0);
    checks.due("no FEES", x.account(2), 0);
    x.puts(0, 100);
    x.months(1);
    checks.due("one comes later", x.person(2, true), 2);
    checks.due("his SHOWN is 0 at first, too", x.shown(2), 0);
  }

  /** "PERSONS 0 .. 11, as they come, with a HOUSE (0 .. 7; NONE) and FAITH, good or not": all are in the digest. */
  private static void personsAsTheyCome() {
    long[] seen = new long[18];
    for (int house = -1; house <= 7; house++) {
      for (int good = 0; good < 2; good++) {
        SteadyFund x = new SteadyFund();
        checks.due("the first is 0", x.person(house, good == 1), 0);
        seen[2 * house + 2 + good] = x.digest();
        checks.due("the second is 1", x.person(house, good == 1), 1);
      }
    }
    for (int i = 0; i < 18; i++) {
      for (int j = 0; j < i; j++) checks.holds("HOUSE and FAITH are kept", seen[i] != seen[j]);
    }
  }

  /** "IN: a PERSON puts shekels in, now: COIN and his SHOWN are that more." */
  private static void in() {
    SteadyFund x = withTwo();
    checks.due("the least", x.puts(0, 1), 0);
    is(x, "the least", 1, 1, 0);
    checks.due("the greatest", x.puts(1, MOST), 1);
    is(x, "the greatest", MOST + 1, 1, MOST);
    checks.due("once more", x.puts(1, MOST), 2);
    is(x, "once more", 2 * MOST + 1, 1, 2 * MOST);
    checks.due("all IN", x.account(4), 2 * MOST + 1);
  }

  /** "no more than SHOWN": just that, one more; be there COIN for it or not. */
  private static void outNoMoreThanShown() {
    SteadyFund x = withTwo();
    x.puts(0, 100);
    x.puts(1, MOST);
    checks.due("one more", x.draws(0, 101), NO);
    is(x, "one more", MOST + 100, 100, MOST);
    checks.due("just that", x.draws(0, 100), 1);
    is(x, "just that", MOST, 0, MOST);
    checks.due("nothing is SHOWN", x.draws(0, 1), NO);
    checks.due("the greatest", x.draws(1, MOST), 1);
    is(x, "the greatest", 0, 0, 0);
    checks.due("nothing is SHOWN, nothing is there: it does not fall", x.draws(1, 1), NO);
    checks.due("it stands", x.account(3), NONE);
    SteadyFund y = withTwo();
    y.puts(0, 7);
    y.puts(1, 8);
    checks.due("the least", y.draws(0, 1), 1);
    is(y, "the least", 14, 6, 8);
    checks.due("what is SHOWN to the other is not his", y.draws(0, 7), NO);
  }

  /** "if COIN is less than it the fund FALLS (for good): nothing is paid." */
  private static void outNoMoreThanCoin() {
    SteadyFund x = withTwo();
    x.puts(0, 1000);
    x.puts(1, 1000);
    x.months(1);
    is(x, "a month later", 2000, 1010, 1010);
    checks.due("his", x.draws(0, 1009), 1);
    checks.due("just all COIN", x.draws(1, 991), 1);
    is(x, "just all COIN", 0, 1, 19);
    checks.due("it stands", x.account(3), NONE);
    checks.due("a shekel that is not there", x.draws(1, 1), 0);
    is(x, "nothing is paid", 0, 1, 19);
    checks.due("it fell", x.account(3), 1);
    SteadyFund y = withTwo();
    y.puts(0, 1000);
    y.puts(1, 1000);
    y.months(1);
    y.draws(0, 1009);
    checks.due("one more than COIN", y.draws(1, 992), 0);
    is(y, "nothing is paid, not even what is there", 991, 1, 1010);
  }

  /** account(3): "the MONTH in which it FELL (NONE)", from the first in which that can be to the last. */
  private static void fallsInItsMonth() {
    for (int month = 1; month <= 59; month++) {
      SteadyFund x = withTwo();
      x.puts(0, 1000);
      for (int i = 0; i < month; i++) x.months(1);
      checks.due("NONE till then", x.account(3), NONE);
      checks.due("it falls", x.draws(0, 1001), 0);
      checks.due("in that MONTH", x.account(3), month);
    }
  }

  /** "for good": no IN, no OUT of what is there, no month; whatever is told. */
  private static void fallenForGood() {
    SteadyFund x = withTwo();
    x.puts(0, 1000);
    x.months(2);
    checks.due("it falls", x.draws(0, 1020), 0);
    checks.due("no IN", x.puts(1, 500), NO);
    checks.due("no OUT of what is there", x.draws(0, 10), NO);
    checks.due("no month", x.months(1), NO);
    x.terms(0, 0);
    x.person(3, true);
    checks.due("for good", x.draws(0, 10), NO);
    checks.due("for good", x.puts(2, 10), NO);
    checks.due("for good", x.months(12), NO);
    checks.due("the MONTH", x.account(3), 2);
    is(x, "nothing is paid", 1000, 1020, 0);
  }

  /** FALLEN stops IN, OUT and months, and nothing else. */
  private static void fallenIsAllElseAsEver() {
    SteadyFund x = Scene.FALLEN.make();
    checks.due("person", x.person(-1, true), 2);
    checks.due("terms", x.terms(20, 50), 1);
    checks.due("spans", x.spans(0, 0, 0, 0, 971), 1);
    checks.due("falls", x.falls(0), 0);
    checks.due("day", x.day(0, 1, 1, 1), 1);
    checks.due("trade", x.trade(0, 1, 1, 1), 0);
    checks.due("index", x.index(0, 50), 100);
    checks.due("count", x.count(1, 2), 2000);
    checks.due("dealt", x.dealt(1, 0, 999), 999);
    checks.due("tide", x.tide(999), 1);
    checks.due("gift", x.gift(0, 1, 3, 7), 1);
    checks.due("years", x.years(0, 0), 1);
    checks.due("take", x.take(0, 1), 23);
    checks.due("lost", x.lost(2), 0);
    checks.due("write", x.write('1'), 1);
    checks.due("bound", x.bound(), 7);
    checks.due("keep", x.keep(), 3);
    checks.due("image", x.image(0), 1);
    checks.due("from", x.from(0), 1);
  }

  /** "COIN is less by FEE, cut (what went is summed)": 999 thousandths are none, 1000 are one. */
  private static void feeIsCut() {
    int[][] rows = {{1, 999, 0}, {1, 1000, 1}, {1, 1999, 1}, {1, 2000, 2}, {20, 49, 0}, {20, 50, 1}, {20, 99, 1}, {20, 100, 2},
        {7, 142, 0}, {7, 143, 1}, {0, 1000000, 0}, {20, 1000000, 20000}, {20, 1, 0}};
    for (int[] row : rows) {
      SteadyFund x = withTwo();
      x.terms(row[0], 0);
      x.puts(0, row[1]);
      x.months(1);
      is(x, "FEE " + row[0] + " of " + row[1], row[1] - row[2], row[1], 0);
      checks.due("FEES that went", x.account(2), row[2]);
    }
    SteadyFund x = withTwo();
    x.terms(20, 0);
    x.puts(0, 60);
    x.puts(1, 40);
    x.months(3);
    is(x, "of COIN of all, what is left of it: 2, 1, 1", 96, 60, 40);
    checks.due("summed", x.account(2), 4);
    x.terms(0, 0);
    x.months(1);
    checks.due("no more", x.account(2), 4);
  }

  /** "each SHOWN grows by it times RATE by 1000, cut": each alone. */
  private static void eachShownIsCut() {
    int[][] rows = {{50, 19, 0}, {50, 20, 1}, {50, 39, 1}, {50, 40, 2}, {10, 99, 0}, {10, 100, 1}, {1, 999, 0}, {1, 1000, 1},
        {0, 1000000, 0}, {50, 1000000, 50000}, {50, 1, 0}};
    for (int[] row : rows) {
      SteadyFund x = withTwo();
      x.terms(0, row[0]);
      x.puts(0, row[1]);
      x.puts(1, row[1]);
      x.months(1);
      is(x, "RATE " + row[0] + " of " + row[1], 2 * row[1], row[1] + row[2], row[1] + row[2]);
    }
    SteadyFund x = withTwo();
    x.puts(0, 100);
    x.puts(1, 99);
    x.months(1);
    is(x, "10 at first", 199, 101, 99);
    x.draws(0, 101);
    x.months(1);
    is(x, "who drew all has nothing that grows", 98, 0, 99);
  }

  /** "FEE (0 .. 20)", "RATE (0 .. 50)": each at its ends, and the last ones told hold. */
  private static void termsAtTheirEnds() {
    int[][] rows = {{0, 0, 10000, 10000}, {20, 0, 9800, 10000}, {0, 50, 10000, 10500}, {20, 50, 9800, 10500}, {1, 1, 9990, 10010}};
    for (int[] row : rows) {
      SteadyFund x = withTwo();
      x.puts(0, 10000);
      checks.due("terms", x.terms(3, 3), 1);
      checks.due("terms", x.terms(row[0], row[1]), 1);
      is(x, "not till a month ends", 10000, 10000, 0);
      x.months(1);
      is(x, "terms(" + row[0] + ", " + row[1] + ")", row[2], row[3], 0);
    }
  }

  /** "n MONTHS end (1 .. 12)": as if one by one, each of what the last left. */
  private static void monthsOneByOne() {
    for (int n = 1; n <= 12; n++) {
      SteadyFund x = withTwo(), y = withTwo();
      for (SteadyFund z : new SteadyFund[] {x, y}) {
        z.terms(13, 47);
        z.puts(0, 98765);
        z.puts(1, 4321);
      }
      checks.due("months(" + n + ")", x.months(n), n);
      for (int i = 1; i <= n; i++) checks.due("months(1)", y.months(1), i);
      checks.due("as one by one", x.digest(), y.digest());
      for (int m = 0; m < n; m++) checks.due("as one by one: LOST", x.lost(m), y.lost(m));
    }
  }

  private static void monthsAtTheirEnds() {
    SteadyFund x = new SteadyFund();
    for (int n : new int[] {0, 13, -1, Integer.MAX_VALUE, Integer.MIN_VALUE}) checks.due("months(" + n + ")", x.months(n), BAD);
    checks.due("none has ended", x.many(2), 0);
    for (int i = 1; i <= 4; i++) checks.due("months(12)", x.months(12), 12 * i);
    checks.due("months(12) to 60", x.months(12), BAD);
    checks.due("months(11) to 59", x.months(11), 59);
    checks.due("months(1) to 60", x.months(1), BAD);
    checks.due("now", x.many(2), 59);
  }

  /** "ROWS: each IN and each OUT that was paid": what was refused, and what the fund fell by, are none. */
  private static void rowsThatWerePaid() {
    SteadyFund x = withTwo();
    x.puts(0, 0);
    x.draws(0, 1);
    checks.due("none", x.many(1), 0);
    x.puts(0, 1000);
    x.draws(0, 1001);
    checks.due("one", x.many(1), 1);
    x.months(1);
    x.draws(0, 1001);
    checks.due("it fell", x.account(3), 1);
    checks.due("one", x.many(1), 1);
    checks.due("all OUT", x.account(5), 0);
    checks.due("RECORD", x.keep(), 1);
  }

  /** 100 ROWS of the greatest sum, 59 months of the greatest RATE and FEE. */
  private static void greatestOfAll() {
    SteadyFund x = withTwo();
    x.terms(20, 50);
    for (int i = 0; i < 100; i++) x.puts(0, MOST);
    long coin = 100L * MOST, shown = 100L * MOST, fees = 0;
    for (int m = 0; m < 59; m++) {
      fees += coin * 20 / 1000;
      coin -= coin * 20 / 1000;
      shown += shown * 50 / 1000;
      x.months(1);
      checks.due("COIN behind month " + m, x.account(0), coin);
      checks.due("SHOWN behind month " + m, x.shown(0), shown);
      checks.due("FEES", x.account(2), fees);
      checks.due("LOST", x.lost(m), fees);
    }
    checks.due("all IN", x.account(4), 100L * MOST);
    checks.due("COUNT 1", x.count(0, 1), shown);
    checks.due("dealt by COUNT 1", x.dealt(0, 1, 10000000), 10000000);
  }

  /** "below 0": by just all COIN it does not fall, by one more it does; in the first month and in the last. */
  private static void belowZero() {
    for (int i = 0; i < 12; i++) {
      for (int more = 0; more < 2; more++) {
        SteadyFund x = withTwo();
        x.puts(0, 500);
        x.spans(i, 0, 0, 500 + more, 500 + more);
        checks.due("EARLIEST in " + i, x.falls(0), more == 1 ? i : NONE);
        checks.due("LATEST in " + i, x.falls(1), more == 1 ? i : NONE);
      }
      SteadyFund y = new SteadyFund();
      y.spans(i, 0, 0, 0, 1);
      checks.due("of COIN 0, EARLIEST", y.falls(0), i);
      checks.due("of COIN 0, LATEST: none", y.falls(1), NONE);
    }
    checks.due("0 at first: none", withTwo().falls(0), NONE);
    checks.due("0 at first: none", withTwo().falls(1), NONE);
  }

  /** "the first i by which COIN is below 0, up to the i-th": all till then together, and the first of more. */
  private static void upToTheIth() {
    SteadyFund x = withTwo();
    x.puts(0, 11);
    for (int i = 0; i < 12; i++) x.spans(i, 0, 0, 1, 1);
    checks.due("the 12th shekel, EARLIEST", x.falls(0), 11);
    checks.due("the 12th shekel, LATEST", x.falls(1), 11);
    x.puts(0, 1);
    checks.due("12 shekels, EARLIEST", x.falls(0), NONE);
    checks.due("12 shekels, LATEST", x.falls(1), NONE);
    x.spans(4, 0, 0, 9, 9);
    checks.due("below 0 from then on", x.falls(0), 4);
    x.spans(5, 50, 50, 0, 0);
    checks.due("what comes later is too late", x.falls(0), 4);
    x.spans(4, 1, 1, 9, 9);
    checks.due("what comes in that month is in time", x.falls(0), NONE);
    x.spans(0, 0, 0, 13, 13);
    checks.due("the first of more", x.falls(1), 0);
  }

  /** EARLIEST: "least coming in and most drawn"; LATEST: "likewise with most coming in and least drawn". */
  private static void leastAndMost() {
    SteadyFund x = withTwo();
    x.puts(0, 100);
    x.spans(3, 0, 50, 100, 100);
    checks.due("least in is enough", x.falls(0), NONE);
    x.spans(3, 10, 50, 100, 111);
    checks.due("least in, most drawn", x.falls(0), 3);
    checks.due("most in, least drawn", x.falls(1), NONE);
    x.spans(3, 11, 50, 100, 111);
    checks.due("least in is one more", x.falls(0), NONE);
    x.spans(3, 0, 50, 151, 999);
    checks.due("most in is one too few", x.falls(1), 3);
    x.spans(3, 0, 51, 151, 999);
    checks.due("most in is one more", x.falls(1), NONE);
    x.spans(3, 0, 50, 150, 999);
    checks.due("least drawn is one less", x.falls(1), NONE);
    checks.due("most drawn", x.falls(0), 3);
  }

  /** "between two numbers (0 .. 1000000 each)": from may be to; the greatest in all twelve months. */
  private static void spansAtTheirEnds() {
    SteadyFund x = withTwo();
    for (int i = 0; i < 12; i++) checks.due("spans", x.spans(i, 0, 0, MOST, MOST), 1);
    for (int i = 0; i < 12; i++) {
      checks.due("EARLIEST", x.falls(0), i);
      checks.due("LATEST", x.falls(1), i);
      x.puts(0, MOST);
    }
    checks.due("twelve times the greatest", x.falls(0), NONE);
    checks.due("spans", x.spans(0, MOST, MOST, 0, 0), 1);
    x.draws(0, MOST);
    x.draws(0, MOST);
    checks.due("the greatest comes in", x.falls(1), NONE);
    checks.due("from above to: in", x.spans(0, MOST, MOST - 1, 0, 0), BAD);
    checks.due("from above to: in", x.spans(0, 1, 0, 0, 0), BAD);
    checks.due("from above to: out", x.spans(0, 0, 0, MOST, MOST - 1), BAD);
    checks.due("from above to: out", x.spans(0, 0, 0, 1, 0), BAD);
    checks.due("nothing has changed", x.falls(0), NONE);
    checks.due("from is to", x.spans(0, 1, 1, 0, 0), 1);
    checks.due("told anew: a shekel is left by then, in the 12th none", x.falls(0), 11);
  }

  /** "COIN (no FEE)": nor does what is SHOWN tell. */
  private static void spansWithoutFee() {
    SteadyFund x = withTwo();
    x.terms(20, 50);
    x.puts(0, 1000);
    x.spans(11, 0, 0, 1000, 1000);
    checks.due("twelve FEES are not counted", x.falls(0), NONE);
    x.months(1);
    checks.due("one that went is", x.falls(0), 11);
    x.spans(11, 0, 0, 980, 980);
    checks.due("COIN of now", x.falls(1), NONE);
  }
}
