/** For each thing that comes in a number: none of it, the last one that fits and does what it should, and one more. */
public final class FullTest {
  private static final Checks checks = new Checks("FullTest");
  private static final int BAD = SteadyFund.BAD, FULL = SteadyFund.FULL;

  public static void main(String[] args) {
    persons();
    rowsIn();
    rowsOut();
    trades();
    gifts();
    letters();
    characters();
    hands();
    suits();
    rowsOfTheRecord();
    images();
    months();
    calls();
    checks.end();
  }

  private static void refusedWhereFull(String name, int... a) {
    Scene.FULL.refuses(checks, FULL, name, a);
  }

  /** As many of what many tells, each told its number from first on. */
  private static void come(SteadyFund x, int what, int most, int first, String name, int... a) {
    checks.due("no " + name + " at first", x.many(what), 0);
    for (int i = 0; i < most; i++) {
      checks.due(Calls.told(name, a) + ", the " + (i + 1) + "th", Calls.call(x, name, a), first + i);
      checks.due("many(" + what + ")", x.many(what), i + 1);
    }
    checks.due(Calls.told(name, a) + ", one more", Calls.call(x, name, a), FULL);
    checks.due(Calls.told(name, a) + ", again", Calls.call(x, name, a), FULL);
    checks.due("many(" + what + ") stays", x.many(what), most);
  }

  /** PERSONS 0 .. 11, as they come. */
  private static void persons() {
    SteadyFund x = new SteadyFund();
    checks.due("SHOWN of all without PERSONS", x.account(1), 0);
    checks.due("SUM of COUNTS without PERSONS", x.count(-1, 0), 0);
    checks.due("nobody is MOVED without PERSONS", x.moved(10000000, 0), 0);
    come(x, 0, 12, 0, "person", 7, 1);
    checks.due("the last one puts in", x.puts(11, 500), 0);
    checks.due("the last one is SHOWN", x.shown(11), 500);
    checks.due("there is no 12", x.shown(12), -1);
    checks.due("the last one is dealt to", x.dealt(11, 0, 500), 500);
    checks.due("the last one gets by TIDE", x.dealt(11, 3, 499), 499);
    checks.due("the last one is led on to", x.gift(11, 0, 59, 1), 1);
    x.months(1);
    checks.due("the last one draws", x.draws(11, 500), 1);
    x.puts(10, 100);
    x.draws(11, 5);
    checks.due("from the last one is taken", x.take(11, 0), 5);
    checks.due("to the first goes on", x.take(0, 1), 1);
    x.coin(7, 1000);
    x.due(7, 0, 2000);
    x.struck(true);
    checks.due("the last ones of a HOUSE are struck", x.pays(7, 0), 900);
    refusedWhereFull("person", -1, 1);
    refusedWhereFull("person", 7, 0);
  }

  /** ROWS 0 .. 99: the 100th IN is counted in all that asks for ROWS. */
  private static void rowsIn() {
    SteadyFund x = new SteadyFund();
    x.person(0, true);
    x.person(0, true);
    checks.due("no IN at first", x.account(4), 0);
    for (int i = 0; i < 99; i++) checks.due("the ROW", x.puts(0, 1), i);
    checks.due("the last ROW", x.puts(1, 1000), 99);
    checks.due("a 101st", x.puts(1, 1000), FULL);
    checks.due("many(1)", x.many(1), 100);
    checks.due("all IN", x.account(4), 1099);
    checks.due("COIN", x.account(0), 1099);
    checks.due("COUNT 0", x.count(1, 0), 1000);
    checks.due("COUNT 2", x.count(1, 2), 1000);
    checks.due("TIDE", x.dealt(1, 3, 10000000), 1000);
    checks.due("RECORD", x.keep(), 100);
    Calls.rules(x, "i=1099");
    x.months(1);
    checks.due("IN of the month", x.bound(), 1);
    x.terms(20, 0);
    x.months(1);
    checks.due("LOST", x.lost(1), 21);
    refusedWhereFull("puts", 0, 1);
    refusedWhereFull("puts", 11, 1000000);
  }

  /** ROWS 0 .. 99: the 100th OUT is paid, one more is not, nor does the fund fall by it. */
  private static void rowsOut() {
    SteadyFund x = new SteadyFund();
    x.terms(20, 50);
    x.person(0, false);
    checks.due("no OUT at first", x.account(5), 0);
    for (int i = 0; i < 99; i++) x.puts(0, 1000);
    x.months(1);
    checks.due("the last ROW", x.draws(0, 500), 1);
    checks.due("a 101st", x.draws(0, 500), FULL);
    checks.due("all OUT", x.account(5), 500);
    checks.due("SHOWN", x.shown(0), 103450);
    checks.due("COIN", x.account(0), 96520);
    checks.due("TO TAKE", x.take(0, 0), 500);
    checks.due("more than COIN", x.draws(0, 96521), FULL);
    checks.due("it has not fallen", x.account(3), SteadyFund.NONE);
    checks.due("nor is it by an IN", x.puts(0, 1), FULL);
    checks.due("a month ends", x.months(1), 2);
    refusedWhereFull("draws", 0, 1);
    refusedWhereFull("draws", 11, 107);
  }

  /** TRADES 0 .. 39, as they come. */
  private static void trades() {
    SteadyFund x = new SteadyFund();
    checks.due("none is WRONG", x.many(4), 0);
    checks.due("none could have told", x.first(), SteadyFund.NONE);
    x.day(29, 5, 5, 39);
    x.hand(1 << 29, 8);
    come(x, 3, 40, 0, "trade", 29, 5, 1, 3);
    checks.due("with the 39th just what was sold", x.wrong(38), 0);
    checks.due("the last one", x.wrong(39), 4);
    checks.due("there is no 40", x.wrong(40), BAD);
    checks.due("WRONG ones", x.many(4), 1);
    checks.due("the last could have told", x.first(), 39);
    checks.due("WHOSE is the last", x.whose(2), 1);
    refusedWhereFull("trade", 0, 1, 1, 0);
    refusedWhereFull("trade", 29, 10000, 100000, 3);
  }

  /** GIFTS, 30 at most. */
  private static void gifts() {
    SteadyFund x = new SteadyFund();
    for (int i = 0; i < 3; i++) x.person(0, false);
    x.puts(0, 1000);
    x.draws(0, 500);
    checks.due("TAKEN without GIFTS", x.take(0, 1), 500);
    come(x, 5, 30, 1, "gift", 0, 1, 3, 10);
    checks.due("all of them lead on", x.take(1, 1), 300);
    checks.due("he keeps the rest", x.take(0, 1), 200);
    refusedWhereFull("gift", 0, 1, 0, 1);
    refusedWhereFull("gift", 11, 10, 59, 1000000);
  }

  /** LETTERS 0 .. 19, as they come. */
  private static void letters() {
    SteadyFund x = new SteadyFund();
    x.months(2);
    Calls.rules(x, "q=0&r=0");
    checks.due("no LETTERS", x.bound(), 3);
    come(x, 6, 20, 0, "letter", 3, 1, 1);
    Calls.rules(x, "q=20&r=20");
    checks.due("the last is asked and read", x.bound(), 2);
    refusedWhereFull("letter", 0, 0, 0);
    refusedWhereFull("letter", 3, 59, -1);
  }

  /** RULES: a text of 40 characters at most. */
  private static void characters() {
    SteadyFund x = new SteadyFund();
    checks.due("none to erase", x.erase(), 0);
    come(x, 9, 40, 1, "write", ' ');
    checks.due("its length: too early", x.fault(), 401);
    x.erase();
    come(x, 9, 40, 1, "write", '-');
    checks.due("its length: too early", x.fault(), 401);
    checks.due("erased", x.erase(), 40);
    for (int i = 0; i < 39; i++) x.write('!');
    checks.due("the last fits", x.write('m'), 40);
    checks.due("the last is read", x.fault(), SteadyFund.NONE);
    x.months(2);
    checks.due("! m, 39 times", x.bound(), 1);
    x.erase();
    for (int i = 0; i < 39; i++) x.write(' ');
    checks.due("the last fits", x.write(')'), 40);
    checks.due("the last can not stand there", x.fault(), 391);
    refusedWhereFull("write", 0);
    refusedWhereFull("write", 127);
    Calls.rules(x, "1+2+3+4+5+6+7+8+9+0+1+2+3+4+5+6+7+8+9+10");
    checks.due("40 characters of a sum", x.fault(), SteadyFund.NONE);
    checks.due("40 characters of a sum", x.bound(), 3);
    Calls.rules(x, "1|1&1=1+1*1|1&1=1+1*1|1&1=1+1*1|1&1=1+1!");
    checks.due("the 40th can not stand there", x.fault(), 391);
  }

  /** HANDS 0 .. 7, as they come. */
  private static void hands() {
    SteadyFund x = new SteadyFund();
    x.trade(0, 1, 1, 0);
    checks.due("WHOSE without HANDS: there is none", x.whose(0), -5);
    come(x, 7, 8, 0, "hand", 1, 1);
    checks.due("each may be", x.whose(3), 255);
    checks.due("so many sets", x.whose(1), 8);
    refusedWhereFull("hand", 0, 0);
    refusedWhereFull("hand", (1 << 30) - 1, 15);
  }

  /** SUITS 0 .. 7, as they come. */
  private static void suits() {
    SteadyFund x = new SteadyFund();
    checks.due("BEST without SUITS", x.best(60, 0), 0);
    checks.due("BEST without SUITS", x.best(60, 1), 0);
    come(x, 8, 8, 0, "suit", 100000, 1, 7);
    checks.due("all of them", x.best(56, 0), 255);
    checks.due("brought less cost of all", x.best(60, 1), 8 * 99999);
    checks.due("one does not fit: the last", x.best(55, 0), 127);
    refusedWhereFull("suit", 1, 0, 1);
    refusedWhereFull("suit", 100000, 100000, 24);
  }

  /** A RECORD of no ROW, of one and of all 100. */
  private static void rowsOfTheRecord() {
    SteadyFund x = new SteadyFund();
    checks.due("before one is kept", x.many(10), 0);
    checks.due("of no ROW", x.keep(), 0);
    checks.due("both seals are right", x.check(-1), -1);
    checks.due("no ROW 0", x.alter(0, 1), BAD);
    x.person(0, true);
    x.puts(0, 5);
    checks.due("the ROWS are not in it", x.alter(0, 1), BAD);
    checks.due("of one", x.keep(), 1);
    checks.due("ROW 0", x.alter(0, 1), 1);
    checks.due("no ROW 1", x.alter(1, 1), BAD);
    checks.due("that one", x.check(0), 0);
    checks.due("not so many", x.check(1), -5);
    SteadyFund y = Scene.FULL.make();
    checks.due("of all 100", y.keep(), 100);
    checks.due("ROW 99", y.alter(99, 1), 1);
    checks.due("no ROW 100", y.alter(100, 1), BAD);
    checks.due("ROW 99 it is", y.check(0), 99);
  }

  /** IMAGES 0, 1: none, the one, the other. */
  private static void images() {
    SteadyFund x = new SteadyFund();
    for (int i = 0; i < 2; i++) {
      checks.due("none was kept", x.from(i), SteadyFund.NO);
      x.person(i, true);
      checks.due("kept", x.image(i), 1);
      checks.due("it goes on from it", x.from(i), 1);
      checks.due("as it was", x.many(0), i + 1);
    }
    checks.due("there is no third", x.image(2), BAD);
    checks.due("there is no third", x.from(2), BAD);
  }

  /** MONTHS 0 .. 59: the last that can end is 58, as now is 59 then. */
  private static void months() {
    SteadyFund x = Scene.LAST_MONTH.make();
    checks.due("now", x.many(2), 59);
    for (int n = 1; n <= 12; n++) Scene.LAST_MONTH.refuses(checks, BAD, "months", n);
    Calls.rules(x, "1");
    checks.due("MONTHS 0 .. 58 have ended", x.bound(), (1L << 59) - 1);
    checks.due("59 has not ended", x.lost(59), -1);
    checks.due("58 has: FEES of 5, then 58 times 4", x.lost(58), 237);
    checks.due("one still puts in", x.puts(0, 7), 1);
    checks.due("one still draws", x.draws(0, 7), 1);
    for (int n = 1; n <= 12; n++) {
      SteadyFund y = new SteadyFund();
      for (int i = 0; i < 59 - n; i++) y.months(1);
      for (int more = n + 1; more <= 12; more++) checks.due("beyond 59", y.months(more), BAD);
      checks.due("now stays", y.many(2), 59 - n);
      checks.due("to 59", y.months(n), 59);
    }
  }

  /** "An object is used for at most 512 calls": the last is answered like any, whatever was called again and again. */
  private static void calls() {
    String[] names = {"shown", "digest", "keep", "image", "from", "write", "erase", "check", "tide", "even", "moved", "terms",
        "index", "day", "spans", "coin", "due", "years", "pays", "bound", "whose"};
    for (String name : names) {
      SteadyFund x = new SteadyFund(), y = new SteadyFund();
      for (SteadyFund z : new SteadyFund[] {x, y}) {
        z.person(0, true);
        z.puts(0, 500);
        z.image(0);
        if (name.equals("keep")) z.keep();
      }
      for (int i = 4; i < 508; i++) Calls.call(x, name, 0, 0, 1, 2, 3);
      x.erase();
      x.coin(0, 0);
      x.even(1, 1, 1, 2);
      y.even(1, 1, 1, 2);
      checks.due("the 512th call, behind " + name, x.digest(), y.digest());
    }
  }
}
