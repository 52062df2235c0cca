/**
 * For each number that a call takes: the least and the greatest that is allowed are taken, one below, one above and what is
 * far beyond are refused, and nothing has changed by it.
 */
public final class LimitsTest {
  private static final Checks checks = new Checks("LimitsTest");
  private static final int BAD = SteadyFund.BAD, LEAST = Integer.MIN_VALUE, GREATEST = Integer.MAX_VALUE;

  public static void main(String[] args) {
    ofTheFund();
    ofThePaper();
    ofCounts();
    ofHouses();
    ofLetters();
    ofHandsAndSuits();
    ofRecords();
    ofNone();
    checks.end();
  }

  /** In the filled scene, where the call with these numbers is taken: the place-th of them is least .. greatest. */
  private static void limits(long refusal, String name, int[] a, int place, int least, int greatest) {
    taken(refusal, name, with(a, place, least));
    taken(refusal, name, with(a, place, greatest));
    refused(refusal, name, with(a, place, least - 1));
    refused(refusal, name, with(a, place, greatest + 1));
    refused(refusal, name, with(a, place, LEAST));
    refused(refusal, name, with(a, place, GREATEST));
  }

  private static void taken(long refusal, String name, int[] a) {
    long got = Calls.call(Scene.FILLED.make(), name, a);
    checks.holds(Calls.told(name, a) + " is taken, not " + got, got != refusal && got > SteadyFund.NO);
  }

  private static void refused(long refusal, String name, int[] a) {
    Scene.FILLED.refuses(checks, refusal, name, a);
  }

  private static int[] with(int[] a, int place, int v) {
    int[] b = a.clone();
    b[place] = v;
    return b;
  }

  private static int[] of(int... numbers) {
    return numbers;
  }

  /** MONTHS, PERSONS 0 .. 11, HOUSES 0 .. 7 and NONE, FEE 0 .. 20, RATE 0 .. 50, sums 1 .. 1000000, SPANS. */
  private static void ofTheFund() {
    limits(BAD, "person", of(3, 1), 0, -1, 7);
    limits(BAD, "person", of(3, 0), 0, -1, 7);
    limits(BAD, "terms", of(5, 20), 0, 0, 20);
    limits(BAD, "terms", of(5, 20), 1, 0, 50);
    limits(BAD, "puts", of(1, 77), 0, 0, 3);
    limits(BAD, "puts", of(1, 77), 1, 1, 1000000);
    limits(BAD, "draws", of(1, 7), 0, 0, 3);
    limits(BAD, "draws", of(1, 7), 1, 1, 1000000);
    limits(BAD, "months", of(2), 0, 1, 12);
    limits(-1, "shown", of(1), 0, 0, 3);
    limits(BAD, "account", of(1), 0, 0, 5);
    limits(BAD, "falls", of(1), 0, 0, 1);
    limits(BAD, "spans", of(1, 5, 10, 6, 999999), 0, 0, 11);
    limits(BAD, "spans", of(1, 5, 10, 6, 999999), 1, 0, 10);
    limits(BAD, "spans", of(1, 5, 1000000, 6, 999999), 1, 0, 1000000);
    limits(BAD, "spans", of(1, 5, 10, 6, 999999), 2, 5, 1000000);
    limits(BAD, "spans", of(1, 0, 10, 6, 999999), 2, 0, 1000000);
    limits(BAD, "spans", of(1, 5, 10, 6, 999999), 3, 0, 999999);
    limits(BAD, "spans", of(1, 5, 10, 6, 1000000), 3, 0, 1000000);
    limits(BAD, "spans", of(1, 5, 10, 999999, 999999), 4, 999999, 1000000);
    limits(BAD, "spans", of(1, 5, 10, 0, 999999), 4, 0, 1000000);
  }

  /** Days 0 .. 29, prices 1 .. 10000, sold 0 .. 100000, amounts 1 .. 100000, FLOORS 0 .. 3; n, k, a, b, w of EVEN. */
  private static void ofThePaper() {
    limits(BAD, "day", of(2, 300, 400, 500), 0, 0, 29);
    limits(BAD, "day", of(2, 300, 400, 500), 1, 1, 400);
    limits(BAD, "day", of(2, 300, 10000, 500), 1, 1, 10000);
    limits(BAD, "day", of(2, 300, 400, 500), 2, 300, 10000);
    limits(BAD, "day", of(2, 1, 400, 500), 2, 1, 10000);
    limits(BAD, "day", of(2, 300, 400, 500), 3, 0, 100000);
    limits(BAD, "trade", of(2, 300, 40, 1), 0, 0, 29);
    limits(BAD, "trade", of(2, 300, 40, 1), 1, 1, 10000);
    limits(BAD, "trade", of(2, 300, 40, 1), 2, 1, 100000);
    limits(BAD, "trade", of(2, 300, 40, 1), 3, 0, 3);
    limits(BAD, "wrong", of(2), 0, 0, 5);
    for (String name : new String[] {"even", "funds"}) {
      limits(BAD, name, of(6, 3, 2, 5, 99), 0, 3, 18);
      limits(BAD, name, of(6, 0, 2, 5, 99), 0, 1, 18);
      limits(BAD, name, of(6, 3, 2, 5, 99), 1, 0, 6);
      limits(BAD, name, of(18, 3, 2, 5, 99), 1, 0, 18);
      limits(BAD, name, of(1, 0, 2, 5, 99), 1, 0, 1);
      limits(BAD, name, of(6, 3, 2, 5, 99), 2, 1, 4);
      limits(BAD, name, of(6, 3, 2, 10, 99), 2, 1, 9);
      limits(BAD, name, of(6, 3, 1, 2, 99), 2, 1, 1);
      limits(BAD, name, of(6, 3, 2, 5, 99), 3, 3, 10);
      limits(BAD, name, of(6, 3, 1, 5, 99), 3, 2, 10);
      limits(BAD, name, of(6, 3, 9, 10, 99), 3, 10, 10);
    }
    limits(BAD, "funds", of(6, 3, 2, 5, 99), 4, 1, 1000000);
    limits(-1, "part", of(1), 0, 0, 1);
  }

  /** MONTHS 0 .. 59, INDEX 1 .. 1000, COUNTS 0 .. 2 and TIDE, to deal 0 .. 10000000, YEARS back 0 .. 60 months. */
  private static void ofCounts() {
    limits(BAD, "index", of(1, 77), 0, 0, 59);
    limits(BAD, "index", of(0, 77), 1, 1, 1000);
    limits(-1, "count", of(1, 1), 0, -1, 3);
    limits(-1, "count", of(1, 1), 1, 0, 2);
    limits(-1, "count", of(-1, 1), 1, 0, 2);
    limits(-1, "dealt", of(1, 1, 500), 0, 0, 3);
    limits(-1, "dealt", of(1, 1, 500), 1, 0, 3);
    for (int which = 0; which <= 3; which++) limits(-1, "dealt", of(1, which, 500), 2, 0, 10000000);
    limits(BAD, "tide", of(500), 0, 0, 10000000);
    limits(BAD, "moved", of(500, 0), 0, 0, 10000000);
    limits(BAD, "moved", of(500, 0), 1, 0, 1);
    limits(BAD, "gift", of(1, 2, 3, 50), 0, 0, 3);
    limits(BAD, "gift", of(1, 2, 3, 50), 1, 0, 3);
    limits(BAD, "gift", of(1, 2, 3, 50), 2, 0, 59);
    limits(BAD, "gift", of(1, 2, 3, 50), 3, 1, 1000000);
    for (int p = 0; p < 4; p++) refused(BAD, "gift", of(p, p, 3, 50));
    limits(BAD, "years", of(7, 9), 0, 0, 60);
    limits(BAD, "years", of(7, 9), 1, 0, 60);
    limits(-1, "take", of(1, 0), 0, 0, 3);
    limits(-1, "take", of(1, 0), 1, 0, 1);
  }

  /** HOUSES 0 .. 7, COIN 0 .. 1000000, DUES 0 .. 10000. */
  private static void ofHouses() {
    limits(BAD, "coin", of(2, 5), 0, 0, 7);
    limits(BAD, "coin", of(2, 5), 1, 0, 1000000);
    limits(BAD, "due", of(2, 3, 5), 0, 0, 7);
    limits(BAD, "due", of(2, 3, 5), 1, 0, 7);
    limits(BAD, "due", of(2, 3, 5), 2, 0, 10000);
    for (int h = 0; h < 8; h++) refused(BAD, "due", of(h, h, 5));
    limits(BAD, "pays", of(2, 0), 0, 0, 7);
    limits(BAD, "pays", of(2, 0), 1, 0, 1);
    limits(BAD, "rounds", of(0, 0), 0, 0, 1);
    limits(BAD, "rounds", of(0, 0), 1, 0, 1);
  }

  /** OFFICES 0 .. 3, MONTHS 0 .. 59, read in one no earlier than asked, or never; characters 0 .. 127. */
  private static void ofLetters() {
    limits(BAD, "letter", of(1, 5, 9), 0, 0, 3);
    limits(BAD, "letter", of(1, 5, 9), 1, 0, 9);
    limits(BAD, "letter", of(1, 5, 59), 1, 0, 59);
    limits(BAD, "letter", of(1, 5, -1), 1, 0, 59);
    taken(BAD, "letter", of(1, 5, 5));
    taken(BAD, "letter", of(1, 5, 59));
    taken(BAD, "letter", of(1, 5, -1));
    taken(BAD, "letter", of(1, 0, 0));
    for (int read : of(4, 60, 0, -2, LEAST, GREATEST)) refused(BAD, "letter", of(1, 5, read));
    refused(BAD, "letter", of(1, 0, -2));
    limits(BAD, "write", of('1'), 0, 0, 127);
    limits(-1, "lost", of(1), 0, 0, 6);
  }

  /** Days as bits 0 .. 29, FLOORS as bits 0 .. 3; SUITS bring 1 .. 100000, cost 0 .. 100000, take 1 .. 24 months; m 0 .. 60. */
  private static void ofHandsAndSuits() {
    limits(BAD, "hand", of(5, 3), 0, 0, (1 << 30) - 1);
    limits(BAD, "hand", of(5, 3), 1, 0, 15);
    limits(BAD, "whose", of(1), 0, 0, 3);
    limits(BAD, "suit", of(50, 5, 3), 0, 1, 100000);
    limits(BAD, "suit", of(50, 5, 3), 1, 0, 100000);
    limits(BAD, "suit", of(50, 5, 3), 2, 1, 24);
    limits(BAD, "best", of(10, 0), 0, 0, 60);
    limits(BAD, "best", of(10, 0), 1, 0, 1);
  }

  /** ROWS of the RECORD, a mask that is not 0, NONE or an i-th, IMAGES 0 and 1, what many tells. */
  private static void ofRecords() {
    limits(BAD, "alter", of(1, 9), 0, 0, 5);
    for (int row = 0; row < 6; row++) refused(BAD, "alter", of(row, 0));
    for (int mask : of(1, -1, LEAST, GREATEST)) taken(BAD, "alter", of(1, mask));
    for (int what : of(-2, -3, LEAST)) refused(BAD, "check", of(what));
    checks.due("check(NONE) is taken", Scene.FILLED.make().check(-1), 1);
    checks.due("check(0) is taken", Scene.FILLED.make().check(0), 1);
    limits(BAD, "image", of(1), 0, 0, 1);
    limits(BAD, "from", of(1), 0, 0, 1);
    limits(BAD, "many", of(1), 0, 0, 10);
  }

  /** With none of them there is no number that will do. */
  private static void ofNone() {
    for (int v : of(LEAST, -1, 0, 1, GREATEST)) {
      Scene.NEW.refuses(checks, BAD, "puts", v, 5);
      Scene.NEW.refuses(checks, BAD, "draws", v, 5);
      Scene.NEW.refuses(checks, -1, "shown", v);
      Scene.NEW.refuses(checks, BAD, "wrong", v);
      Scene.NEW.refuses(checks, -1, "dealt", v, 0, 5);
      Scene.NEW.refuses(checks, -1, "dealt", v, 3, 5);
      Scene.NEW.refuses(checks, -1, "take", v, 0);
      Scene.NEW.refuses(checks, BAD, "gift", v, v + 1, 0, 5);
      Scene.NEW.refuses(checks, -1, "lost", v);
      Scene.NEW.refuses(checks, BAD, "alter", v, 5);
      if (v != -1) Scene.NEW.refuses(checks, -1, "count", v, 0);
    }
    Scene.NEW.refuses(checks, SteadyFund.NO, "from", 0);
    Scene.NEW.refuses(checks, SteadyFund.NO, "from", 1);
    Scene.NEW.refuses(checks, SteadyFund.NO, "struck", 0);
    Scene.NEW.refuses(checks, SteadyFund.NO, "bound");
  }
}
