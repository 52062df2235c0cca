/** Terms 4, promises 26 to 30: the edges of COIN, DUES, PAYMENTS, their ROUNDS and of STRUCK. */
public final class EdgesOfHousesTest {
  private static final Checks checks = new Checks("EdgesOfHousesTest");
  private static final int NO = SteadyFund.NO, MOST_COIN = 1000000, MOST_DUE = 10000;

  public static void main(String[] args) {
    zeroAtFirst();
    eachOfItsOwn();
    theLesser();
    atTheirEnds();
    whoOwesNothing();
    sharesAreCut();
    whatItGets();
    leastAndGreatest();
    roundsThatChanged();
    fallenBits();
    allEight();
    toldAnew();
    struckZeroAtLeast();
    struckByCount();
    struckByHouse();
    struckOrNot();
    checks.end();
  }

  private static void pays(SteadyFund x, String what, int which, int... due) {
    for (int h = 0; h < due.length; h++) checks.due(what + ": pays(" + h + ", " + which + ")", x.pays(h, which), due[h]);
  }

  private static void rounds(SteadyFund x, String what, int which, int rounds, int fallen) {
    checks.due(what + ": ROUNDS by " + which, x.rounds(which, 0), rounds);
    checks.due(what + ": FALLEN by " + which, x.rounds(which, 1), fallen);
  }

  /** "own COIN (0 at first), DUES to each other (0 at first)". */
  private static void zeroAtFirst() {
    SteadyFund x = new SteadyFund();
    for (int which = 0; which < 2; which++) {
      pays(x, "at first", which, 0, 0, 0, 0, 0, 0, 0, 0);
      rounds(x, "at first", which, 0, 0);
    }
    for (int f = 0; f < 8; f++) {
      checks.due("COIN", x.coin(f, 0), 0);
      for (int t = 0; t < 8; t++) {
        if (f != t) checks.due("a DUE", x.due(f, t, 0), 0);
      }
    }
  }

  /** HOUSES 0 .. 7: each COIN and each DUE is one of its own. */
  private static void eachOfItsOwn() {
    SteadyFund x = new SteadyFund();
    for (int f = 0; f < 8; f++) {
      checks.due("COIN", x.coin(f, 900 + f), 0);
      for (int t = 0; t < 8; t++) checks.due("a DUE", x.due(f, t, 10 * f + t), f == t ? SteadyFund.BAD : 0);
    }
    for (int f = 0; f < 8; f++) {
      checks.due("COIN: what it was", x.coin(f, 0), 900 + f);
      for (int t = 0; t < 8; t++) checks.due("a DUE: what it was", x.due(f, t, 0), f == t ? SteadyFund.BAD : 10 * f + t);
    }
    checks.due("all is 0 again", x.digest(), new SteadyFund().digest());
  }

  /** "each HOUSE pays the lesser of all its DUES and its COIN"; "FALLEN: HOUSES that pay less than their DUES". */
  private static void theLesser() {
    for (int coin = 99; coin <= 101; coin++) {
      SteadyFund x = new SteadyFund();
      x.coin(3, coin);
      x.due(3, 4, 60);
      x.due(3, 5, 40);
      int fallen = coin < 100 ? 8 : 0;
      for (int which = 0; which < 2; which++) pays(x, "COIN " + coin, which, 0, 0, 0, Math.min(100, coin), 0, 0, 0, 0);
      rounds(x, "COIN " + coin, 0, 1, fallen);
      rounds(x, "COIN " + coin, 1, coin < 100 ? 1 : 0, fallen);
    }
  }

  /** "COIN (0 .. 1000000)", "DUES (0 .. 10000)": what is paid by the least and by the greatest. */
  private static void atTheirEnds() {
    SteadyFund x = new SteadyFund();
    for (int t = 1; t < 8; t++) x.due(0, t, MOST_DUE);
    pays(x, "without COIN", 1, 0);
    rounds(x, "without COIN", 1, 1, 1);
    rounds(x, "without COIN", 0, 0, 1);
    x.coin(0, 69999);
    pays(x, "one too few", 0, 69999);
    rounds(x, "one too few", 0, 1, 1);
    x.coin(0, 70000);
    pays(x, "just all DUES", 0, 70000);
    rounds(x, "just all DUES", 0, 1, 0);
    x.coin(0, MOST_COIN);
    pays(x, "the most COIN", 0, 70000);
    pays(x, "the most COIN", 1, 70000);
    rounds(x, "the most COIN", 1, 0, 0);
    SteadyFund y = new SteadyFund();
    y.due(6, 7, 1);
    y.coin(6, 1);
    pays(y, "a shekel", 0, 0, 0, 0, 0, 0, 0, 1, 0);
    rounds(y, "a shekel", 0, 1, 0);
    y.coin(6, 0);
    pays(y, "a shekel that is not there", 1, 0, 0, 0, 0, 0, 0, 0, 0);
    rounds(y, "a shekel that is not there", 1, 1, 64);
  }

  /** All its DUES are 0: it pays 0, has not FALLEN and takes no part in ROUNDS. */
  private static void whoOwesNothing() {
    SteadyFund x = new SteadyFund();
    for (int h = 0; h < 8; h++) x.coin(h, h % 2 * MOST_COIN);
    for (int which = 0; which < 2; which++) {
      pays(x, "none owes", which, 0, 0, 0, 0, 0, 0, 0, 0);
      rounds(x, "none owes", which, 0, 0);
    }
    x.due(1, 0, 5);
    pays(x, "one owes", 1, 0, 5, 0, 0, 0, 0, 0, 0);
    rounds(x, "one owes", 0, 1, 0);
    rounds(x, "one owes", 1, 0, 0);
  }

  /** "of what it pays each gets that times its DUE by all DUES of the payer, cut". */
  private static void sharesAreCut() {
    int[][] rows = {{1, 0, 0}, {2, 0, 1}, {3, 0, 2}, {4, 1, 3}, {5, 1, 3}, {7, 1, 5}, {8, 2, 6}, {9, 2, 6}};
    for (int[] row : rows) {
      SteadyFund x = new SteadyFund();
      x.coin(0, row[0]);
      x.due(0, 1, 2);
      x.due(0, 2, 6);
      x.due(1, 7, 100);
      x.due(2, 7, 100);
      for (int which = 0; which < 2; which++) {
        pays(x, row[0] + " by 2 and 6", which, Math.min(8, row[0]), row[1], row[2]);
      }
    }
  }

  /** "its COIN with what it gets": of all that owe it, and no more than its DUES goes on. */
  private static void whatItGets() {
    for (int own = 0; own <= 2; own++) {
      SteadyFund x = new SteadyFund();
      x.coin(0, 10);
      x.coin(1, 20);
      x.coin(2, own);
      x.due(0, 2, 10);
      x.due(1, 2, 20);
      x.due(2, 3, 31);
      x.due(3, 4, 40);
      for (int which = 0; which < 2; which++) pays(x, "own COIN " + own, which, 10, 20, Math.min(31, 30 + own), Math.min(31, 30 + own), 0);
      rounds(x, "own COIN " + own, 0, 3, own == 0 ? 12 : 8);
    }
  }

  /** "THE GREATEST: from all DUES paid; THE LEAST: from nothing paid": a ring without COIN. */
  private static void leastAndGreatest() {
    SteadyFund x = new SteadyFund();
    for (int h = 0; h < 3; h++) x.due(h, (h + 1) % 3, 50);
    pays(x, "a ring", 0, 0, 0, 0);
    pays(x, "a ring", 1, 50, 50, 50);
    rounds(x, "a ring", 0, 0, 7);
    rounds(x, "a ring", 1, 0, 0);
    x.coin(0, 1);
    pays(x, "a shekel in it", 0, 50, 50, 50);
    rounds(x, "a shekel in it", 0, 150, 0);
    x.coin(0, 49);
    rounds(x, "one too few", 0, 6, 0);
    x.coin(0, 50);
    rounds(x, "enough", 0, 3, 0);
    x.coin(0, 0);
    x.due(0, 5, 1);
    pays(x, "one that leaks", 1, 0, 0, 0);
    pays(x, "one that leaks", 0, 0, 0, 0);
    rounds(x, "one that leaks", 0, 0, 7);
  }

  /** "ROUNDS: how many rounds (that changed something)": a chain of so many, from its end and from its head. */
  private static void roundsThatChanged() {
    for (int n = 1; n <= 7; n++) {
      SteadyFund x = new SteadyFund();
      for (int h = 0; h < n; h++) x.due(h, h + 1, MOST_DUE);
      rounds(x, "a chain of " + n, 0, 0, (1 << n) - 1);
      rounds(x, "a chain of " + n, 1, n, (1 << n) - 1);
      x.coin(0, MOST_DUE - 1);
      rounds(x, "one too few", 0, n, (1 << n) - 1);
      rounds(x, "one too few", 1, n, (1 << n) - 1);
      x.coin(0, MOST_DUE);
      rounds(x, "enough", 0, n, 0);
      rounds(x, "enough", 1, 0, 0);
    }
    SteadyFund x = new SteadyFund();
    x.due(0, 2, 10);
    x.due(1, 3, 10);
    rounds(x, "two in one round", 1, 1, 3);
    x.coin(0, 10);
    x.coin(1, 10);
    rounds(x, "two in one round", 0, 1, 0);
  }

  private static void fallenBits() {
    for (int h = 0; h < 8; h++) {
      SteadyFund x = new SteadyFund();
      for (int f = 0; f < 8; f++) {
        x.coin(f, f == h ? 4 : 5);
        x.due(f, (f + 3) % 8, 5);
      }
      x.due((h + 5) % 8, h, 0);
      for (int which = 0; which < 2; which++) checks.due("FALLEN " + h, x.rounds(which, 1), 1 << h);
    }
  }

  /** All DUES are the greatest. */
  private static void allEight() {
    SteadyFund x = new SteadyFund();
    for (int f = 0; f < 8; f++) {
      for (int t = 0; t < 8; t++) x.due(f, t, MOST_DUE);
    }
    rounds(x, "none has COIN", 0, 0, 255);
    rounds(x, "none has COIN", 1, 0, 0);
    pays(x, "none has COIN", 0, 0, 0, 0, 0, 0, 0, 0, 0);
    pays(x, "none has COIN", 1, 70000, 70000, 70000, 70000, 70000, 70000, 70000, 70000);
    for (int h = 0; h < 8; h++) x.coin(h, MOST_COIN);
    rounds(x, "all have COIN", 0, 1, 0);
    rounds(x, "all have COIN", 1, 0, 0);
    pays(x, "all have COIN", 0, 70000, 70000, 70000, 70000, 70000, 70000, 70000, 70000);
  }

  /** What was worked ahead is worked anew by other COIN, other DUES, another PERSON, an IMAGE. */
  private static void toldAnew() {
    SteadyFund x = new SteadyFund();
    x.coin(0, 10);
    x.due(0, 1, 20);
    x.image(0);
    pays(x, "first", 0, 10);
    x.coin(0, 11);
    pays(x, "other COIN", 0, 11);
    pays(x, "other COIN", 1, 11);
    x.due(0, 1, 9);
    pays(x, "other DUES", 0, 9);
    x.due(0, 1, 0);
    pays(x, "none", 0, 0);
    rounds(x, "none", 0, 0, 0);
    x.from(0);
    pays(x, "from an IMAGE", 0, 10);
    pays(x, "from an IMAGE", 1, 10);
    x.due(0, 1, 0);
    x.due(0, 2, 20);
    x.due(2, 3, 20);
    pays(x, "to another one", 0, 10, 0, 10);
  }

  private static SteadyFund struck(int house, int coin, int in) {
    SteadyFund x = new SteadyFund();
    x.terms(0, 50);
    x.person(house, true);
    x.puts(0, in);
    x.coin(house, coin);
    x.due(house, (house + 1) % 8, MOST_DUE);
    checks.due("struck", x.struck(true), 1);
    return x;
  }

  /** "less by what PERSONS of it have as COUNT 0 together, 0 at least". */
  private static void struckZeroAtLeast() {
    for (int coin = 99; coin <= 101; coin++) {
      SteadyFund x = struck(7, coin, 100);
      int left = Math.max(0, coin - 100);
      for (int which = 0; which < 2; which++) checks.due("COIN " + coin + " less 100", x.pays(7, which), left);
      rounds(x, "COIN " + coin + " less 100", 0, left, 128);
      rounds(x, "COIN " + coin + " less 100", 1, 1, 128);
    }
    SteadyFund x = struck(0, 0, 1000000);
    checks.due("the most, of no COIN", x.pays(0, 0), 0);
    x = struck(0, MOST_COIN, 1);
    checks.due("the least, of the most COIN", x.pays(0, 0), MOST_DUE);
    x = struck(0, MOST_DUE, 1);
    checks.due("the least", x.pays(0, 0), MOST_DUE - 1);
  }

  /** COUNT 0, not what is SHOWN; each below 0 is 0 ahead of the sum. */
  private static void struckByCount() {
    SteadyFund x = struck(2, 1000, 100);
    x.person(2, false);
    x.puts(1, 500);
    checks.due("together", x.pays(2, 0), 400);
    x.months(12);
    checks.due("by COUNT 0", x.pays(2, 0), 400);
    x.draws(0, 150);
    checks.due("COUNT 0 below 0 is 0", x.pays(2, 0), 500);
    x.draws(1, 1);
    checks.due("a shekel OUT", x.pays(2, 1), 501);
  }

  /** "a HOUSE (0 .. 7; NONE)": who is of none strikes none, nor does who is of another one. */
  private static void struckByHouse() {
    for (int house = -1; house <= 7; house++) {
      SteadyFund x = new SteadyFund();
      x.person(house, true);
      x.puts(0, 5);
      for (int h = 0; h < 8; h++) x.coin(h, 10);
      for (int h = 0; h < 8; h++) x.due(h, (h + 1) % 8, h < 7 ? 1000 : 0);
      x.due(0, 1, 10);
      x.struck(true);
      for (int h = 0; h < 7; h++) checks.due("HOUSE " + h + ", a PERSON of " + house, x.pays(h, 1), paidInChain(h, house));
    }
  }

  private static int paidInChain(int h, int house) {
    return 10 * (h + 1) - (0 <= house && house <= h ? 5 : 0);
  }

  /** "STRUCK (told, or not: at first)": COIN and DUES stay; "NO: so it is". */
  private static void struckOrNot() {
    SteadyFund x = new SteadyFund();
    x.person(0, true);
    x.puts(0, 5);
    x.coin(0, 10);
    x.due(0, 1, 20);
    checks.due("not at first", x.pays(0, 0), 10);
    checks.due("not at first", x.struck(false), NO);
    long before = x.digest();
    checks.due("told", x.struck(true), 1);
    checks.due("struck", x.pays(0, 0), 5);
    checks.due("so it is", x.struck(true), NO);
    checks.due("struck still", x.pays(0, 1), 5);
    checks.due("the digest tells it not", x.digest(), before);
    checks.due("COIN is what was told", x.coin(0, 10), 10);
    checks.due("no more", x.struck(false), 1);
    checks.due("no more", x.pays(0, 1), 10);
    checks.due("so it is", x.struck(false), NO);
  }
}
