/** Promises 31 to 40: letters, RULES, HANDS, SUITS. */
public final class LettersTest {
  private static final Checks checks = new Checks("LettersTest");

  public static void main(String[] args) {
    letter();
    write();
    erase();
    faultOfUnits();
    faultOfOrder();
    bound();
    boundByNames();
    boundBySigns();
    lost();
    hand();
    whose();
    suit();
    best();
    checks.end();
  }

  private static void rules(SteadyFund x, String text) {
    x.erase();
    for (int i = 0; i < text.length(); i++) x.write(text.charAt(i));
  }

  /** Promise 31. */
  private static void letter() {
    SteadyFund x = new SteadyFund();
    long before = x.digest();
    checks.refused("office -1", x, before, x.letter(-1, 0, 0), SteadyFund.BAD);
    checks.refused("office 4", x, before, x.letter(4, 0, 0), SteadyFund.BAD);
    checks.refused("asked -1", x, before, x.letter(0, -1, 0), SteadyFund.BAD);
    checks.refused("asked 60", x, before, x.letter(0, 60, -1), SteadyFund.BAD);
    checks.refused("read ahead of asked", x, before, x.letter(0, 5, 4), SteadyFund.BAD);
    checks.refused("read 60", x, before, x.letter(0, 5, 60), SteadyFund.BAD);
    checks.refused("read -2", x, before, x.letter(0, 5, -2), SteadyFund.BAD);
    checks.due("letter(3, 59, 59)", x.letter(3, 59, 59), 0);
    checks.due("letter(0, 0, NONE)", x.letter(0, 0, -1), 1);
    for (int i = 2; i < 20; i++) checks.due("its number", x.letter(1, 5, 5), i);
    before = x.digest();
    checks.refused("a 21st", x, before, x.letter(1, 5, 5), SteadyFund.FULL);
    checks.refused("BAD ahead of FULL", x, before, x.letter(1, 5, 4), SteadyFund.BAD);
    checks.due("many(6)", x.many(6), 20);
  }

  /** Promise 32. */
  private static void write() {
    SteadyFund x = new SteadyFund();
    long before = x.digest();
    checks.refused("write(-1)", x, before, x.write(-1), SteadyFund.BAD);
    checks.refused("write(128)", x, before, x.write(128), SteadyFund.BAD);
    checks.refused("write(MIN)", x, before, x.write(Integer.MIN_VALUE), SteadyFund.BAD);
    checks.due("write(0)", x.write(0), 1);
    checks.due("write(127)", x.write(127), 2);
    for (int i = 3; i <= 40; i++) checks.due("how many", x.write('1'), i);
    before = x.digest();
    checks.refused("a 41st", x, before, x.write('1'), SteadyFund.FULL);
    checks.refused("BAD ahead of FULL", x, before, x.write(128), SteadyFund.BAD);
    checks.due("many(9)", x.many(9), 40);
  }

  /** Promise 33. */
  private static void erase() {
    SteadyFund x = new SteadyFund();
    checks.due("none", x.erase(), 0);
    rules(x, "1+1");
    checks.due("how many", x.erase(), 3);
    checks.due("empty", x.many(9), 0);
    checks.due("empty", x.fault(), 1);
    checks.due("empty", x.erase(), 0);
    checks.due("written anew", x.write('m'), 1);
    checks.due("nothing is left of the old", x.fault(), SteadyFund.NONE);
  }

  private static void fault(String text, int want) {
    SteadyFund x = new SteadyFund();
    rules(x, text);
    checks.due("fault of '" + text + "'", x.fault(), want);
    checks.due("bound of '" + text + "'", x.bound(), want == -1 ? 0 : -3);
  }

  /** Promise 34. */
  private static void faultOfUnits() {
    for (String text : new String[] {"1", "c", "s", "i", "o", "q", "r", "m", "(1)", "!1", "-1", "!-!-m", " 1 ", "999999",
        "( ( c ) )", "1+1", "1-1", "1*1", "1/1", "1<1", "1>1", "1=1", "1|1", "1&1", "1--1", "1*-!c", "(1<2)<3",
        "1<2&2<3|c=c", "1<2|(3>4)=0", "((((((((1))))))))", "(1)+((1))*(((1)))-(1)", "----------------------------------------".substring(1) + "1",
        "000001+000002"}) fault(text, -1);
    for (int c = 0; c < 128; c++) {
      if ("csioqrm0123456789".indexOf(c) >= 0) fault("" + (char) c, -1);
      else if ("(!- ".indexOf(c) >= 0) fault("" + (char) c, 11);
      else fault("" + (char) c, 1);
    }
    fault("1234567", 2);
    fault("12345678901", 2);
    fault("1+ 1234567", 32);
    fault("999999 ", -1);
    fault("1 1", 21);
    fault("12 34", 31);
    fault("1 1234567", 21);
    fault("c1", 11);
    fault("1c", 11);
    fault("cs", 11);
    fault("1(", 11);
    fault("1!", 11);
    fault("(((((((((", 83);
    fault("((((((((-(", 93);
    fault("((((((((1(", 91);
    fault("((((((((1))))))))+((((((((1))))))))", -1);
    fault("((((((( (  (1", 113);
  }

  private static void faultOfOrder() {
    fault("", 1);
    fault("   ", 31);
    fault("1+", 21);
    fault("1+ ", 31);
    fault("(1", 21);
    fault("(1 ", 31);
    fault("1)", 11);
    fault("(1))", 31);
    fault("()", 11);
    fault("+1", 1);
    fault("1++1", 21);
    fault("1*/1", 21);
    fault("1<2<3", 31);
    fault("1<2=3", 31);
    fault("1=2>3", 31);
    fault("(1<2>3)", 41);
    fault("1<2&3<4<5", 71);
    fault("1<", 21);
    fault("1<&1", 21);
    fault("1||1", 21);
    fault("1&&1", 21);
    fault("1|", 21);
    fault("1<=2", 21);
    fault("1!=2", 11);
    fault("!", 11);
    fault("-", 11);
    fault("1\t", 11);
    fault("1+x)", 21);
    fault("(((((((((1234567", 83);
    fault("C", 1);
  }

  /** Nine months that ended; FEE 20, RATE 50. */
  private static SteadyFund nine() {
    SteadyFund x = new SteadyFund();
    x.terms(20, 50);
    x.person(0, true);
    x.person(0, true);
    x.puts(0, 1000);
    x.puts(1, 500);
    x.months(2);
    x.puts(0, 100);
    x.draws(1, 40);
    x.draws(0, 60);
    x.months(3);
    x.letter(0, 3, 3);
    x.letter(0, 4, 7);
    x.letter(2, 4, -1);
    x.letter(2, 20, 21);
    x.months(4);
    x.puts(0, 77);
    return x;
  }

  private static void months(SteadyFund x, String text, long want) {
    rules(x, text);
    checks.due("bound of '" + text + "'", x.bound(), want);
  }

  private static int between(int first, int last) {
    return (1 << last + 1) - (1 << first);
  }

  /** Promise 35. */
  private static void bound() {
    SteadyFund x = nine();
    months(x, "", -3);
    months(x, "1+", -3);
    months(x, "1", between(0, 8));
    months(x, "0", 0);
    months(x, "-1", between(0, 8));
    months(x, "m", between(1, 8));
    months(x, "!m", 1);
    SteadyFund y = new SteadyFund();
    months(y, "1", 0);
    for (int i = 0; i < 4; i++) y.months(12);
    y.months(11);
    months(y, "1", (1L << 59) - 1);
    months(y, "m>57", 1L << 58);
    SteadyFund z = nine();
    rules(z, "m<3");
    checks.due("asked twice", z.bound(), 7);
    checks.due("asked twice", z.bound(), 7);
    z.months(1);
    checks.due("one more has ended", z.bound(), 7);
    rules(z, "i=77");
    checks.due("IN of the month", z.bound(), 1 << 9);
  }

  private static void boundByNames() {
    SteadyFund x = nine();
    months(x, "c=1470", 1);
    months(x, "c=1441", 2);
    months(x, "c=1413", 4);
    months(x, "s=1575", 1);
    months(x, "s=1653", 2);
    months(x, "s=1735", 4);
    months(x, "i=1500", 1);
    months(x, "i=100", 4);
    months(x, "i=0", between(0, 8) - 1 - 4);
    months(x, "o=100", 4);
    months(x, "o", 4);
    months(x, "q=0", between(0, 2));
    months(x, "q=1", 1 << 3);
    months(x, "q=3", between(4, 8));
    months(x, "r=1", between(3, 6));
    months(x, "r=2", between(7, 8));
    months(x, "m=8", 1 << 8);
  }

  private static void boundBySigns() {
    SteadyFund x = nine();
    int all = between(0, 8);
    months(x, "m<3", 7);
    months(x, "m>3", between(4, 8));
    months(x, "m=3", 8);
    months(x, "m>1&m<4", 12);
    months(x, "m<1|m>7", 1 + 256);
    months(x, "m=1|m=2&m=3", 2);
    months(x, "(m=1|m=2)&m=2", 4);
    months(x, "2|0=2", all);
    months(x, "(2|0)=1", all);
    months(x, "(2&3)=1", all);
    months(x, "!5=0", all);
    months(x, "!(m=2)", all - 4);
    months(x, "!m+1=2", 1);
    months(x, "2+3*4=14", all);
    months(x, "(2+3)*4=20", all);
    months(x, "10-3-2=5", all);
    months(x, "7/2*2=6", all);
    months(x, "-7/2=0-3", all);
    months(x, "-2*3=-6", all);
    months(x, "5/0=0", all);
    months(x, "5/(m-m)", 0);
    months(x, "1 < 2", all);
    months(x, "(1<2)=(3<4)", all);
    months(x, "2<1+1", 0);
    months(x, "--m=m", all);
    months(x, "999999*999999*999999*10<0-1", all);
    months(x, "-999999*999999*999999*10>1", all);
    months(x, "000010=10", all);
    months(x, "m-4", all - 16);
  }

  /** Promise 36. */
  private static void lost() {
    SteadyFund x = nine();
    checks.due("1500 less 1470", x.lost(0), 30);
    checks.due("1500 less 1441", x.lost(1), 59);
    checks.due("1040 and 460, less 1413", x.lost(2), 87);
    checks.due("it has not ended", x.lost(9), -1);
    checks.due("month -1", x.lost(-1), -1);
    checks.due("month 60", x.lost(60), -1);
    checks.due("month MAX", x.lost(Integer.MAX_VALUE), -1);
    SteadyFund y = new SteadyFund();
    y.terms(0, 50);
    y.person(0, true);
    y.person(0, true);
    y.puts(0, 100);
    y.months(1);
    checks.due("nothing", y.lost(0), 0);
    y.puts(1, 1000);
    y.months(11);
    y.draws(0, 170);
    y.months(1);
    checks.due("ROWS that come later are not counted", y.lost(0), 0);
    checks.due("who won is not set against who lost", y.lost(12), 70);
    y.draws(1, 200);
    y.puts(0, 500);
    y.months(1);
    checks.due("1000 - 200 and 100 - 170 + 500, less COIN", y.lost(13), 0);
    checks.due("as it was then", y.lost(12), 70);
  }

  /** Promise 37. */
  private static void hand() {
    SteadyFund x = new SteadyFund();
    long before = x.digest();
    checks.refused("days -1", x, before, x.hand(-1, 0), SteadyFund.BAD);
    checks.refused("days of bit 30", x, before, x.hand(1 << 30, 0), SteadyFund.BAD);
    checks.refused("days MIN", x, before, x.hand(Integer.MIN_VALUE, 0), SteadyFund.BAD);
    checks.refused("floors -1", x, before, x.hand(0, -1), SteadyFund.BAD);
    checks.refused("floors 16", x, before, x.hand(0, 16), SteadyFund.BAD);
    checks.due("hand(0, 0)", x.hand(0, 0), 0);
    checks.due("all days, all floors", x.hand((1 << 30) - 1, 15), 1);
    for (int i = 2; i < 8; i++) checks.due("its number", x.hand(i, i), i);
    before = x.digest();
    checks.refused("a 9th", x, before, x.hand(1, 1), SteadyFund.FULL);
    checks.refused("BAD ahead of FULL", x, before, x.hand(1, 16), SteadyFund.BAD);
    checks.due("many(7)", x.many(7), 8);
  }

  private static void whose(SteadyFund x, String what, int size, int sets, int sure, int may) {
    checks.due(what + ": how many in a set", x.whose(0), size);
    checks.due(what + ": how many sets", x.whose(1), sets);
    checks.due(what + ": SURE", x.whose(2), sure);
    checks.due(what + ": MAY BE", x.whose(3), may);
  }

  /** Promise 38. */
  private static void whose() {
    SteadyFund x = new SteadyFund();
    checks.due("what -1", x.whose(-1), SteadyFund.BAD);
    checks.due("what 4", x.whose(4), SteadyFund.BAD);
    whose(x, "no WRONG TRADE: the empty set", 0, 1, 0, 0);
    x.day(1, 10, 20, 1000);
    x.trade(1, 15, 1, 0);
    x.hand(2, 1);
    whose(x, "no WRONG TRADE: the empty set", 0, 1, 0, 0);
    x.trade(1, 5, 1, 1);
    whose(x, "there that day, not on that FLOOR", -5, 0, 0, 0);
    x.hand(4, 2);
    whose(x, "on that FLOOR, not that day", -5, 0, 0, 0);
    x.hand(2, 3);
    whose(x, "one", 1, 1, 4, 4);
    x.hand(2, 2);
    whose(x, "one or the other", 1, 2, 0, 12);
    x.trade(29, 5, 1, 3);
    x.hand(1 << 29, 8);
    whose(x, "one or the other, and one more", 2, 2, 16, 28);
    x.hand(1 << 29 | 2, 8);
    whose(x, "two for each", 2, 4, 0, 60);
    x.hand(1 << 29 | 2, 10);
    whose(x, "one for both", 1, 1, 64, 64);
    x.trade(1, 15, 1, 2);
    whose(x, "a TRADE that is not wrong needs none", 1, 1, 64, 64);
    x.trade(2, 15, 1, 2);
    whose(x, "a TRADE that none could print", -5, 0, 0, 0);
  }

  /** Promise 39. */
  private static void suit() {
    SteadyFund x = new SteadyFund();
    long before = x.digest();
    checks.refused("brings 0", x, before, x.suit(0, 0, 1), SteadyFund.BAD);
    checks.refused("brings 100001", x, before, x.suit(100001, 0, 1), SteadyFund.BAD);
    checks.refused("cost -1", x, before, x.suit(1, -1, 1), SteadyFund.BAD);
    checks.refused("cost 100001", x, before, x.suit(1, 100001, 1), SteadyFund.BAD);
    checks.refused("months 0", x, before, x.suit(1, 0, 0), SteadyFund.BAD);
    checks.refused("months 25", x, before, x.suit(1, 0, 25), SteadyFund.BAD);
    checks.due("suit(1, 0, 1)", x.suit(1, 0, 1), 0);
    checks.due("suit(100000, 100000, 24)", x.suit(100000, 100000, 24), 1);
    for (int i = 2; i < 8; i++) checks.due("its number", x.suit(i, i, i), i);
    before = x.digest();
    checks.refused("a 9th", x, before, x.suit(1, 1, 1), SteadyFund.FULL);
    checks.refused("BAD ahead of FULL", x, before, x.suit(1, 1, 25), SteadyFund.BAD);
    checks.due("many(8)", x.many(8), 8);
  }

  private static void best(SteadyFund x, int m, int set, int gain) {
    checks.due("best(" + m + ", 0)", x.best(m, 0), set);
    checks.due("best(" + m + ", 1)", x.best(m, 1), gain);
  }

  /** Promise 40. */
  private static void best() {
    SteadyFund x = new SteadyFund();
    best(x, 60, 0, 0);
    x.suit(100, 100, 1);
    best(x, 60, 0, 0);
    x.suit(50, 10, 6);
    x.suit(45, 5, 5);
    x.suit(41, 1, 5);
    best(x, 0, 0, 0);
    best(x, 4, 0, 0);
    best(x, 5, 4, 40);
    best(x, 9, 4, 40);
    best(x, 10, 12, 80);
    best(x, 16, 14, 120);
    best(x, 15, 12, 80);
    x.suit(90, 10, 10);
    best(x, 10, 12, 80);
    x.suit(90, 10, 9);
    best(x, 10, 32, 80);
    best(x, 60, 62, 280);
    x.suit(3, 9, 1);
    best(x, 60, 62, 280);
    checks.due("m -1", x.best(-1, 0), SteadyFund.BAD);
    checks.due("m 61", x.best(61, 0), SteadyFund.BAD);
    checks.due("what -1", x.best(5, -1), SteadyFund.BAD);
    checks.due("what 2", x.best(5, 2), SteadyFund.BAD);
  }
}
