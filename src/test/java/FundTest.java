/** Promises 1 to 10: the fund. */
public final class FundTest {
  private static final Checks checks = new Checks("FundTest");

  public static void main(String[] args) {
    aNewObject();
    person();
    terms();
    puts();
    draws();
    theFundFalls();
    months();
    shown();
    account();
    spans();
    falls();
    checks.end();
  }

  private static SteadyFund withTwo() {
    SteadyFund x = new SteadyFund();
    x.person(0, true);
    x.person(1, false);
    return x;
  }

  /** Promise 1. */
  private static void aNewObject() {
    SteadyFund x = new SteadyFund();
    for (int i = 0; i <= 10; i++) checks.due("new: many(" + i + ")", x.many(i), 0);
    for (int i = 0; i <= 5; i++) checks.due("new: account(" + i + ")", x.account(i), i == 3 ? -1 : 0);
    checks.due("new: part(0)", x.part(0), 0);
    checks.due("new: part(1)", x.part(1), 1);
    checks.due("new: falls(0)", x.falls(0), SteadyFund.NONE);
    checks.due("new: falls(1)", x.falls(1), SteadyFund.NONE);
    checks.due("new: first", x.first(), SteadyFund.NONE);
    checks.due("new: fault", x.fault(), 1);
    checks.due("new: bound", x.bound(), SteadyFund.NO);
    checks.due("new: check(-1)", x.check(-1), SteadyFund.NONE);
    checks.due("new: struck(false)", x.struck(false), SteadyFund.NO);
    checks.due("new: from(0)", x.from(0), SteadyFund.NO);
    checks.due("new: from(1)", x.from(1), SteadyFund.NO);
    checks.due("new: best(60, 0)", x.best(60, 0), 0);
    checks.due("new: whose(0)", x.whose(0), 0);
    checks.due("new: count(-1, 0)", x.count(-1, 0), 0);
    checks.due("new: lost(0)", x.lost(0), -1);
    for (int i = 0; i < 60; i++) checks.due("new: index(" + i + ", 7)", new SteadyFund().index(i, 7), 100);
    for (int h = 0; h < 8; h++) {
      checks.due("new: coin", x.coin(h, 0), 0);
      checks.due("new: pays", x.pays(h, h % 2), 0);
      for (int t = 0; t < 8; t++) checks.due("new: due", x.due(h, t, 0), h == t ? -2 : 0);
    }
    checks.due("NONE", SteadyFund.NONE, -1);
    checks.due("BAD", SteadyFund.BAD, -2);
    checks.due("NO", SteadyFund.NO, -3);
    checks.due("FULL", SteadyFund.FULL, -4);
  }

  /** Promise 2. */
  private static void person() {
    SteadyFund x = new SteadyFund();
    for (int i = 0; i < 12; i++) {
      long before = x.digest();
      checks.refused("person(-2)", x, before, x.person(-2, true), SteadyFund.BAD);
      checks.refused("person(8)", x, before, x.person(8, false), SteadyFund.BAD);
      checks.due("person", x.person(i % 9 - 1, i % 2 == 0), i);
      checks.due("many(0)", x.many(0), i + 1);
      checks.holds("a person shows in the digest", x.digest() != before);
    }
    long before = x.digest();
    checks.refused("a 13th person", x, before, x.person(0, true), SteadyFund.FULL);
    checks.refused("BAD ahead of FULL", x, before, x.person(8, true), SteadyFund.BAD);
    checks.refused("person(MIN)", x, before, x.person(Integer.MIN_VALUE, true), SteadyFund.BAD);
    checks.refused("person(MAX)", x, before, x.person(Integer.MAX_VALUE, true), SteadyFund.BAD);
  }

  /** Promise 3. */
  private static void terms() {
    SteadyFund x = withTwo();
    x.puts(0, 100000);
    checks.due("months: FEE 0, RATE 10 at first", x.months(1), 1);
    checks.due("COIN", x.account(0), 100000);
    checks.due("SHOWN", x.shown(0), 101000);
    checks.due("terms(-1, 0)", x.terms(-1, 0), SteadyFund.BAD);
    checks.due("terms(21, 0)", x.terms(21, 0), SteadyFund.BAD);
    checks.due("terms(0, -1)", x.terms(0, -1), SteadyFund.BAD);
    checks.due("terms(0, 51)", x.terms(0, 51), SteadyFund.BAD);
    x.months(1);
    checks.due("refused terms change nothing: COIN", x.account(0), 100000);
    checks.due("refused terms change nothing: SHOWN", x.shown(0), 102010);
    checks.due("terms(20, 50)", x.terms(20, 50), 1);
    x.months(1);
    checks.due("COIN less 20 thousandths", x.account(0), 98000);
    checks.due("SHOWN more by 50 thousandths, cut", x.shown(0), 107110);
    checks.due("terms(0, 0)", x.terms(0, 0), 1);
    x.months(1);
    checks.due("no FEE", x.account(0), 98000);
    checks.due("no RATE", x.shown(0), 107110);
  }

  /** Promise 4. */
  private static void puts() {
    SteadyFund x = withTwo();
    long before = x.digest();
    checks.refused("puts(-1, 5)", x, before, x.puts(-1, 5), SteadyFund.BAD);
    checks.refused("puts(2, 5): no such PERSON", x, before, x.puts(2, 5), SteadyFund.BAD);
    checks.refused("puts(0, 0)", x, before, x.puts(0, 0), SteadyFund.BAD);
    checks.refused("puts(0, 1000001)", x, before, x.puts(0, 1000001), SteadyFund.BAD);
    checks.due("puts(0, 1)", x.puts(0, 1), 0);
    checks.due("puts(1, 1000000)", x.puts(1, 1000000), 1);
    checks.due("shown(0)", x.shown(0), 1);
    checks.due("shown(1)", x.shown(1), 1000000);
    checks.due("COIN", x.account(0), 1000001);
    for (int i = 2; i < 100; i++) checks.due("puts", x.puts(0, 1), i);
    before = x.digest();
    checks.refused("a 101st row", x, before, x.puts(0, 1), SteadyFund.FULL);
    checks.refused("BAD ahead of FULL", x, before, x.puts(0, 0), SteadyFund.BAD);
    x.months(12);
    checks.due("COIN is not shown growing", x.account(0), 1000099);
  }

  /** Promise 5. */
  private static void draws() {
    SteadyFund x = withTwo();
    x.puts(0, 500);
    x.puts(1, 800);
    long before = x.digest();
    checks.refused("draws(-1, 1)", x, before, x.draws(-1, 1), SteadyFund.BAD);
    checks.refused("draws(2, 1)", x, before, x.draws(2, 1), SteadyFund.BAD);
    checks.refused("draws(0, 0)", x, before, x.draws(0, 0), SteadyFund.BAD);
    checks.refused("draws(0, 1000001): BAD ahead of NO", x, before, x.draws(0, 1000001), SteadyFund.BAD);
    checks.refused("more than SHOWN", x, before, x.draws(0, 501), SteadyFund.NO);
    checks.due("all that is SHOWN", x.draws(0, 500), 1);
    checks.due("SHOWN is that less", x.shown(0), 0);
    checks.due("COIN is that less", x.account(0), 800);
    checks.due("all OUT", x.account(5), 500);
    checks.due("a ROW", x.many(1), 3);
    checks.due("all COIN can be drawn", x.draws(1, 800), 1);
    checks.due("COIN", x.account(0), 0);
    checks.due("it did not fall", x.account(3), SteadyFund.NONE);
    SteadyFund y = withTwo();
    for (int i = 0; i < 100; i++) y.puts(0, 10);
    y.months(12);
    before = y.digest();
    checks.refused("NO ahead of FULL", y, before, y.draws(0, 1127), SteadyFund.NO);
    checks.refused("FULL", y, before, y.draws(0, 1), SteadyFund.FULL);
    checks.refused("FULL, though COIN is less", y, before, y.draws(0, 1100), SteadyFund.FULL);
  }

  private static void theFundFalls() {
    SteadyFund x = withTwo();
    x.puts(0, 1000);
    x.puts(1, 1000);
    x.months(3);
    x.draws(0, 1029);
    checks.due("SHOWN of the other", x.shown(1), 1030);
    checks.due("COIN", x.account(0), 971);
    checks.due("COIN is less: it falls", x.draws(1, 972), 0);
    checks.due("nothing is paid", x.account(0), 971);
    checks.due("SHOWN stays", x.shown(1), 1030);
    checks.due("no ROW", x.many(1), 3);
    checks.due("the month in which it fell", x.account(3), 3);
    long before = x.digest();
    checks.refused("no IN", x, before, x.puts(0, 1), SteadyFund.NO);
    checks.refused("no OUT", x, before, x.draws(1, 1), SteadyFund.NO);
    checks.refused("no month ends", x, before, x.months(1), SteadyFund.NO);
    checks.refused("BAD ahead of NO: puts", x, before, x.puts(0, 0), SteadyFund.BAD);
    checks.refused("BAD ahead of NO: draws", x, before, x.draws(9, 1), SteadyFund.BAD);
    checks.refused("BAD ahead of NO: months", x, before, x.months(13), SteadyFund.BAD);
    checks.due("a PERSON may still come", x.person(2, true), 2);
    checks.due("terms go on", x.terms(1, 1), 1);
  }

  /** Promise 6. */
  private static void months() {
    SteadyFund x = withTwo();
    x.terms(15, 33);
    x.puts(0, 999);
    x.puts(1, 77);
    long before = x.digest();
    checks.refused("months(0)", x, before, x.months(0), SteadyFund.BAD);
    checks.refused("months(-1)", x, before, x.months(-1), SteadyFund.BAD);
    checks.refused("months(13)", x, before, x.months(13), SteadyFund.BAD);
    checks.refused("months(MAX)", x, before, x.months(Integer.MAX_VALUE), SteadyFund.BAD);
    checks.due("months(1)", x.months(1), 1);
    checks.due("FEE is cut", x.account(2), 16);
    checks.due("COIN", x.account(0), 1060);
    checks.due("each SHOWN grows, cut", x.shown(0), 1031);
    checks.due("each SHOWN grows, cut", x.shown(1), 79);
    checks.due("months(12)", x.months(12), 13);
    for (int i = 0; i < 3; i++) checks.due("months(12)", x.months(12), 25 + 12 * i);
    before = x.digest();
    checks.refused("beyond 59", x, before, x.months(11), SteadyFund.BAD);
    checks.due("to 59", x.months(10), 59);
    before = x.digest();
    checks.refused("beyond 59", x, before, x.months(1), SteadyFund.BAD);
    checks.due("one may still put in month 59", x.puts(0, 5), 2);
  }

  /** Promise 7. */
  private static void shown() {
    SteadyFund x = withTwo();
    checks.due("shown(0)", x.shown(0), 0);
    checks.due("shown(-1)", x.shown(-1), -1);
    checks.due("shown(2)", x.shown(2), -1);
    checks.due("shown(MAX)", x.shown(Integer.MAX_VALUE), -1);
    checks.due("shown(MIN)", x.shown(Integer.MIN_VALUE), -1);
    x.puts(1, 12);
    checks.due("shown(1)", x.shown(1), 12);
    checks.due("shown(0)", x.shown(0), 0);
  }

  /** Promise 8. */
  private static void account() {
    SteadyFund x = withTwo();
    x.terms(10, 20);
    x.puts(0, 10000);
    x.puts(1, 5000);
    x.months(2);
    x.draws(0, 3000);
    checks.due("COIN", x.account(0), 11702);
    checks.due("SHOWN of all", x.account(1), 10404 - 3000 + 5202);
    checks.due("FEES that went", x.account(2), 298);
    checks.due("not fallen", x.account(3), SteadyFund.NONE);
    checks.due("all IN", x.account(4), 15000);
    checks.due("all OUT", x.account(5), 3000);
    checks.due("account(-1)", x.account(-1), -2);
    checks.due("account(6)", x.account(6), -2);
    checks.due("account(MIN)", x.account(Integer.MIN_VALUE), -2);
  }

  /** Promise 9. */
  private static void spans() {
    SteadyFund x = withTwo();
    int most = 1000000;
    checks.due("spans(-1)", x.spans(-1, 0, 0, 1, 1), SteadyFund.BAD);
    checks.due("spans(12)", x.spans(12, 0, 0, 1, 1), SteadyFund.BAD);
    checks.due("in0 below 0", x.spans(0, -1, 0, 1, 1), SteadyFund.BAD);
    checks.due("in1 too large", x.spans(0, 0, most + 1, 1, 1), SteadyFund.BAD);
    checks.due("out0 below 0", x.spans(0, 0, 0, -1, 1), SteadyFund.BAD);
    checks.due("out1 too large", x.spans(0, 0, 0, 1, most + 1), SteadyFund.BAD);
    checks.due("in: from above to", x.spans(0, 2, 1, 1, 1), SteadyFund.BAD);
    checks.due("out: from above to", x.spans(0, 0, 0, 2, 1), SteadyFund.BAD);
    checks.due("refused spans change nothing", x.falls(0), SteadyFund.NONE);
    checks.due("spans", x.spans(0, 0, most, 0, most), 1);
    checks.due("falls(0)", x.falls(0), 0);
    checks.due("falls(1)", x.falls(1), SteadyFund.NONE);
    checks.due("spans, told again", x.spans(0, most, most, most, most), 1);
    checks.due("falls(0)", x.falls(0), SteadyFund.NONE);
    checks.due("spans(11)", x.spans(11, 0, 0, 1, 1), 1);
    checks.due("falls(0)", x.falls(0), 11);
    checks.due("falls(1)", x.falls(1), 11);
  }

  /** Promise 10. */
  private static void falls() {
    SteadyFund x = withTwo();
    x.puts(0, 100);
    checks.due("falls(-1)", x.falls(-1), SteadyFund.BAD);
    checks.due("falls(2)", x.falls(2), SteadyFund.BAD);
    x.spans(0, 0, 50, 60, 100);
    checks.due("COIN of 0 is not below 0", x.falls(0), SteadyFund.NONE);
    x.spans(2, 0, 10, 1, 5);
    checks.due("EARLIEST: up to the i-th, together", x.falls(0), 2);
    checks.due("LATEST: not yet", x.falls(1), SteadyFund.NONE);
    x.spans(5, 0, 10, 110, 500);
    checks.due("LATEST: 100 + 50 - 60 + 10 - 1 + 10 - 110 is below 0", x.falls(1), 5);
    x.spans(6, 1000, 2000, 0, 0);
    checks.due("the first by which it is below", x.falls(0), 2);
    x.terms(20, 0);
    checks.due("no FEE", x.falls(0), 2);
    x.months(1);
    checks.due("COIN of now, 98; the spans are from now", x.falls(0), 0);
    x.puts(0, 2);
    checks.due("100 again", x.falls(0), 2);
  }
}
