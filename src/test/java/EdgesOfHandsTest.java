/** Terms 5, promises 37 to 40: the edges of HANDS, of WHOSE they must have been, of SUITS and of the BEST of them. */
public final class EdgesOfHandsTest {
  private static final Checks checks = new Checks("EdgesOfHandsTest");
  private static final int BAD = SteadyFund.BAD, ALL_DAYS = (1 << 30) - 1;

  public static void main(String[] args) {
    daysAndFloors();
    thereThatDayOnThatFloor();
    noneIsWrong();
    thereIsNone();
    leastSets();
    sureAndMayBe();
    allEightHands();
    asTheyAreNow();
    suitsAtTheirEnds();
    justFits();
    costs();
    fewestMonths();
    leastNumber();
    setsOfAll();
    checks.end();
  }

  private static void whose(SteadyFund x, String what, int... due) {
    for (int i = 0; i < 4; i++) checks.due(what + ": whose(" + i + ")", x.whose(i), due[i]);
  }

  /** "days (bits 0 .. 29) and FLOORS (bits)": none, each, all, one bit too far. */
  private static void daysAndFloors() {
    SteadyFund x = new SteadyFund();
    checks.due("none", x.hand(0, 0), 0);
    checks.due("all", x.hand(ALL_DAYS, 15), 1);
    for (int days : new int[] {1 << 30, ALL_DAYS + 2, 1 << 31, -1, Integer.MAX_VALUE}) checks.due("days " + days, x.hand(days, 1), BAD);
    for (int floors : new int[] {16, 17, -1, 1 << 31}) checks.due("FLOORS " + floors, x.hand(1, floors), BAD);
    checks.due("none of these", x.many(7), 2);
    x.trade(0, 1, 1, 0);
    whose(x, "who was there on none was not", 1, 1, 2, 2);
  }

  /** "one of them that was there that day on that FLOOR": each day and each FLOOR is one bit. */
  private static void thereThatDayOnThatFloor() {
    for (int day = 0; day < 30; day++) {
      for (int floor = 0; floor < 4; floor++) {
        SteadyFund x = new SteadyFund();
        x.trade(day, 1, 1, floor);
        x.hand(ALL_DAYS ^ 1 << day, 15);
        x.hand(ALL_DAYS, 15 ^ 1 << floor);
        whose(x, "all days but that, all FLOORS but that", -5, 0, 0, 0);
        x.hand(1 << day, 1 << floor);
        whose(x, "that day on that FLOOR", 1, 1, 4, 4);
      }
    }
  }

  /** No WRONG TRADE: a set of none will do, and it is the one least. */
  private static void noneIsWrong() {
    SteadyFund x = new SteadyFund();
    whose(x, "no TRADE, no HAND", 0, 1, 0, 0);
    x.hand(1, 1);
    whose(x, "no TRADE", 0, 1, 0, 0);
    x.day(0, 5, 5, 1);
    x.trade(0, 5, 1, 0);
    whose(x, "a TRADE that is right", 0, 1, 0, 0);
    x.trade(0, 5, 1, 0);
    whose(x, "one that is WRONG", 1, 1, 1, 1);
    x.day(0, 5, 5, 2);
    whose(x, "it is right again", 0, 1, 0, 0);
  }

  /** "(-5: there is none)". */
  private static void thereIsNone() {
    SteadyFund x = new SteadyFund();
    x.trade(3, 1, 1, 2);
    checks.due("no HAND", x.whose(0), -5);
    for (int i = 0; i < 8; i++) x.hand(ALL_DAYS ^ 8, 15);
    checks.due("none was there that day", x.whose(0), -5);
    SteadyFund y = new SteadyFund();
    y.trade(3, 1, 1, 2);
    y.hand(8, 4);
    y.trade(4, 1, 1, 2);
    checks.due("of two TRADES one", y.whose(0), -5);
    y.hand(16, 4);
    whose(y, "two for two", 2, 1, 3, 3);
  }

  /** "the least sets: how many are in such a set, how many such sets": larger ones are not counted. */
  private static void leastSets() {
    SteadyFund x = new SteadyFund();
    for (int d = 0; d < 3; d++) x.trade(d, 1, 1, 0);
    for (int d = 0; d < 3; d++) x.hand(1 << d, 1);
    whose(x, "three for three", 3, 1, 7, 7);
    x.hand(3, 1);
    whose(x, "one for two of them", 2, 1, 12, 12);
    x.hand(6, 1);
    whose(x, "another for two", 2, 3, 0, 29);
    x.hand(7, 1);
    whose(x, "one for all", 1, 1, 32, 32);
    x.hand(7, 1);
    whose(x, "two for all", 1, 2, 0, 96);
  }

  /** "SURE: HANDS in all of them, MAY BE: in some." */
  private static void sureAndMayBe() {
    SteadyFund x = new SteadyFund();
    x.trade(0, 1, 1, 0);
    x.trade(1, 1, 1, 0);
    x.hand(1, 1);
    x.hand(2, 1);
    x.hand(2, 1);
    whose(x, "one is sure, of two one", 2, 2, 1, 7);
    x.hand(4, 1);
    whose(x, "one who is in none", 2, 2, 1, 7);
    x.hand(3, 1);
    whose(x, "one for both", 1, 1, 16, 16);
  }

  /** HANDS 0 .. 7: sets of all eight, and eight sets of one. */
  private static void allEightHands() {
    SteadyFund x = new SteadyFund(), y = new SteadyFund();
    for (int i = 0; i < 8; i++) {
      x.trade(i, 1, 1, 3);
      x.hand(1 << i, 8);
      y.hand(1, 1);
    }
    whose(x, "all eight", 8, 1, 255, 255);
    y.trade(0, 1, 1, 0);
    whose(y, "each of eight", 1, 8, 0, 255);
    SteadyFund z = new SteadyFund();
    for (int i = 0; i < 4; i++) z.trade(29 - i, 1, 1, 0);
    for (int i = 0; i < 8; i++) z.hand(1 << 29 - i / 2, 1);
    whose(z, "one of two, four times", 4, 16, 0, 255);
  }

  /** WRONG TRADES are those that are WRONG now, up to the 40th. */
  private static void asTheyAreNow() {
    SteadyFund x = new SteadyFund();
    x.day(29, 5, 5, 39);
    for (int t = 0; t < 40; t++) x.trade(29, 5, 1, t == 39 ? 3 : 0);
    x.hand(1 << 29, 1);
    x.hand(1 << 29, 8);
    whose(x, "the 40th alone", 1, 1, 2, 2);
    x.day(29, 5, 5, 38);
    whose(x, "and the 39th", 2, 1, 3, 3);
    x.day(29, 5, 5, 40);
    whose(x, "none", 0, 1, 0, 0);
  }

  private static void best(SteadyFund x, int m, int set, int gain) {
    checks.due("best(" + m + ", 0)", x.best(m, 0), set);
    checks.due("best(" + m + ", 1)", x.best(m, 1), gain);
  }

  /** "what it brings (1 .. 100000), its cost (0 .. 100000), months (1 .. 24)", "m months (0 .. 60)". */
  private static void suitsAtTheirEnds() {
    SteadyFund x = new SteadyFund();
    checks.due("the least", x.suit(1, 0, 1), 0);
    best(x, 0, 0, 0);
    best(x, 1, 1, 1);
    checks.due("the most", x.suit(100000, 0, 24), 1);
    best(x, 23, 1, 1);
    best(x, 24, 2, 100000);
    best(x, 25, 3, 100001);
    checks.due("the dearest", x.suit(1, 100000, 1), 2);
    best(x, 60, 3, 100001);
    checks.due("as dear as it brings", x.suit(100000, 100000, 1), 3);
    best(x, 60, 3, 100001);
    checks.due("the dearest that brings", x.suit(100000, 99999, 24), 4);
    best(x, 48, 3, 100001);
    best(x, 49, 19, 100002);
    best(x, 60, 19, 100002);
    for (int m : new int[] {-1, 61}) checks.due("m " + m, x.best(m, 0), BAD);
    for (int what : new int[] {-1, 2}) checks.due("what " + what, x.best(5, what), BAD);
  }

  /** "that fits", "one behind the other": months together just m, one fewer. */
  private static void justFits() {
    SteadyFund x = new SteadyFund();
    for (int i = 0; i < 4; i++) x.suit(100 + i, 0, 15);
    best(x, 14, 0, 0);
    best(x, 15, 8, 103);
    best(x, 29, 8, 103);
    best(x, 30, 12, 205);
    best(x, 44, 12, 205);
    best(x, 45, 14, 306);
    best(x, 59, 14, 306);
    best(x, 60, 15, 406);
  }

  /** "the most brought less cost": one that costs as much as it brings, or more, is left. */
  private static void costs() {
    SteadyFund x = new SteadyFund();
    x.suit(10, 10, 1);
    best(x, 60, 0, 0);
    x.suit(10, 11, 1);
    best(x, 60, 0, 0);
    x.suit(10, 9, 1);
    best(x, 60, 4, 1);
    x.suit(100, 97, 1);
    best(x, 1, 8, 3);
    best(x, 2, 12, 4);
    best(x, 60, 12, 4);
  }

  /** "of like ones the fewest months". */
  private static void fewestMonths() {
    SteadyFund x = new SteadyFund();
    x.suit(50, 0, 6);
    x.suit(50, 0, 5);
    best(x, 6, 2, 50);
    best(x, 5, 2, 50);
    x.suit(60, 10, 4);
    best(x, 6, 4, 50);
    x.suit(100, 0, 9);
    best(x, 9, 6, 100);
    best(x, 8, 4, 50);
    x.suit(99, 0, 1);
    best(x, 4, 16, 99);
  }

  /** "then the least number". */
  private static void leastNumber() {
    SteadyFund x = new SteadyFund();
    for (int i = 0; i < 3; i++) x.suit(50, 0, 5);
    best(x, 5, 1, 50);
    best(x, 10, 3, 100);
    best(x, 15, 7, 150);
    SteadyFund y = new SteadyFund();
    y.suit(20, 0, 2);
    y.suit(30, 0, 3);
    y.suit(50, 0, 5);
    best(y, 5, 3, 50);
    SteadyFund z = new SteadyFund();
    z.suit(50, 0, 5);
    z.suit(20, 0, 2);
    z.suit(30, 0, 3);
    best(z, 5, 1, 50);
  }

  /** SUITS 0 .. 7: each bit, and all of them. */
  private static void setsOfAll() {
    for (int s = 0; s < 8; s++) {
      SteadyFund x = new SteadyFund();
      for (int i = 0; i < 8; i++) x.suit(i == s ? 101 : 100, 0, 7);
      best(x, 7, 1 << s, 101);
      best(x, 55, s == 7 ? 255 - 64 : 127, 701);
      best(x, 56, 255, 801);
    }
    SteadyFund x = new SteadyFund();
    for (int i = 0; i < 8; i++) x.suit(100000, 0, 1);
    best(x, 60, 255, 800000);
    best(x, 7, 127, 700000);
  }
}
