/** Promises 41 to 47: the RECORD, IMAGES, many, digest. */
public final class RecordsTest {
  private static final Checks checks = new Checks("RecordsTest");

  public static void main(String[] args) {
    keep();
    alter();
    check();
    checkOfHighBits();
    image();
    imageOfAll();
    from();
    many();
    digestOfNew();
    digestOfEach();
    checks.end();
  }

  /** n ROWS of two PERSONS, a MONTH each. */
  private static SteadyFund rows(int n) {
    SteadyFund x = new SteadyFund();
    x.person(0, true);
    x.person(1, false);
    for (int i = 0; i < n; i++) {
      if (i % 3 == 2) x.draws(i % 2, 5 + i);
      else x.puts(i % 2, 1000 + 7 * i);
      if (i < 50) x.months(1);
    }
    return x;
  }

  /** Promise 41. */
  private static void keep() {
    SteadyFund x = new SteadyFund();
    checks.due("no ROWS", x.keep(), 0);
    checks.due("many(10)", x.many(10), 0);
    x = rows(9);
    checks.due("not kept yet", x.many(10), 0);
    checks.due("keep", x.keep(), 9);
    checks.due("many(10)", x.many(10), 9);
    x.puts(0, 5);
    checks.due("ROWS as they were", x.many(10), 9);
    checks.due("check", x.check(-1), -1);
    x.alter(3, 9);
    checks.due("kept anew", x.keep(), 10);
    checks.due("what was ALTERED is gone", x.check(-1), -1);
    checks.due("all 100", rows(100).keep(), 100);
  }

  /** Promise 42. */
  private static void alter() {
    SteadyFund x = rows(4);
    checks.due("none kept", x.alter(0, 1), SteadyFund.BAD);
    x.keep();
    x.puts(0, 8);
    long before = x.digest();
    checks.refused("row -1", x, before, x.alter(-1, 1), SteadyFund.BAD);
    checks.refused("row 4, not in it", x, before, x.alter(4, 1), SteadyFund.BAD);
    checks.refused("mask 0", x, before, x.alter(0, 0), SteadyFund.BAD);
    checks.due("alter(3, MIN)", x.alter(3, Integer.MIN_VALUE), 1);
    checks.holds("it shows in the digest", x.digest() != before);
    checks.due("the ROW itself stays", x.account(4), 1000 + 1007 + 1021 + 8);
    checks.due("alter(3, MIN)", x.alter(3, Integer.MIN_VALUE), 1);
    checks.due("XOR twice", x.digest(), before);
    checks.due("alter(0, -1)", x.alter(0, -1), 1);
    checks.due("alter(0, 5)", x.alter(0, 5), 1);
    checks.due("alter(0, -6)", x.alter(0, -6), 1);
    checks.due("XOR, not put", x.digest(), before);
  }

  /** Promise 43. */
  private static void check() {
    SteadyFund x = rows(20);
    checks.due("none kept", x.check(-1), -1);
    checks.due("none kept", x.check(0), -1);
    checks.due("what -2", x.check(-2), SteadyFund.BAD);
    checks.due("what MIN", x.check(Integer.MIN_VALUE), SteadyFund.BAD);
    x.keep();
    checks.due("both are right", x.check(-1), -1);
    checks.due("both are right", x.check(0), -1);
    checks.due("both are right", x.check(99), -1);
    for (int r = 0; r < 20; r++) {
      x.alter(r, 1 + 2 * r);
      checks.due("one ROW", x.check(-1), 1);
      checks.due("which", x.check(0), r);
      checks.due("not so many", x.check(1), -5);
      checks.due("not so many", x.check(Integer.MAX_VALUE), -5);
      x.alter(r, 1 + 2 * r);
      checks.due("right again", x.check(-1), -1);
    }
    x.alter(4, 3);
    x.alter(5, 3);
    checks.due("two ROWS: none does", x.check(-1), 0);
    checks.due("two ROWS: none does", x.check(0), -5);
    checks.due("what -2, though wrong", x.check(-2), SteadyFund.BAD);
  }

  /** Of a sum's highest bit alone every ROW could be it: the factors are odd. */
  private static void checkOfHighBits() {
    SteadyFund x = rows(100);
    x.keep();
    x.alter(40, Integer.MIN_VALUE);
    checks.due("all ROWS", x.check(-1), 100);
    for (int i = 0; i < 100; i++) checks.due("the i-th", x.check(i), i);
    checks.due("not so many", x.check(100), -5);
    x.alter(41, Integer.MIN_VALUE);
    checks.due("two highest bits are none", x.check(-1), -1);
    x.alter(41, Integer.MIN_VALUE);
    x.alter(40, Integer.MIN_VALUE);
    x.alter(40, 1 << 26);
    checks.due("33 by 31, to the 6, is 1 of 64: each other ROW", x.check(-1), 50);
    for (int i = 0; i < 50; i++) checks.due("the i-th", x.check(i), 2 * i);
    checks.due("not so many", x.check(50), -5);
  }

  /** Promise 44. */
  private static void image() {
    SteadyFund x = rows(6);
    checks.due("image(-1)", x.image(-1), SteadyFund.BAD);
    checks.due("image(2)", x.image(2), SteadyFund.BAD);
    long before = x.digest();
    checks.due("image(0)", x.image(0), 1);
    checks.due("nothing else is moved", x.digest(), before);
    x.puts(0, 9);
    long later = x.digest();
    checks.due("image(1)", x.image(1), 1);
    checks.due("from(0)", x.from(0), 1);
    checks.due("as it was", x.digest(), before);
    checks.due("from(1)", x.from(1), 1);
    checks.due("as it was later", x.digest(), later);
    x.puts(0, 9);
    long latest = x.digest();
    checks.due("image(0) again", x.image(0), 1);
    x.puts(0, 9);
    checks.due("from(0)", x.from(0), 1);
    checks.due("the later one", x.digest(), latest);
  }

  private static SteadyFund withAll() {
    SteadyFund x = rows(8);
    x.terms(7, 30);
    x.spans(2, 1, 5, 90000, 95000);
    x.day(3, 10, 20, 30);
    x.trade(3, 15, 5, 2);
    x.index(3, 80);
    x.gift(0, 1, 2, 50);
    x.years(7, 5);
    x.coin(1, 60);
    x.due(1, 2, 100);
    x.struck(true);
    x.letter(1, 2, 3);
    x.write('m');
    x.write('>');
    x.write('2');
    x.hand(8, 4);
    x.suit(90, 10, 5);
    return x;
  }

  private static void spoil(SteadyFund x) {
    x.person(3, true);
    x.terms(0, 0);
    x.puts(0, 70000);
    x.months(3);
    x.draws(0, 70);
    x.spans(2, 0, 0, 0, 0);
    x.spans(1, 0, 0, 400000, 500000);
    x.day(3, 1, 2, 3);
    x.day(4, 1, 2, 3);
    x.trade(4, 15, 5, 2);
    x.trade(3, 15, 5, 2);
    x.index(3, 1);
    x.index(8, 1000);
    x.gift(1, 0, 2, 50);
    x.gift(1, 0, 1, 40);
    x.years(1, 60);
    x.coin(1, 5);
    x.coin(2, 5);
    x.due(1, 2, 1);
    x.due(2, 1, 7);
    x.struck(false);
    x.letter(1, 0, 0);
    x.erase();
    x.write('0');
    x.hand(1, 1);
    x.suit(1000, 10, 1);
    x.draws(1, (int) x.shown(1));
  }

  /** What an object answers that the digest does not tell. */
  private static long answers(SteadyFund x) {
    long h = x.digest();
    for (int i = 0; i < 2; i++) {
      h = 31 * h + x.falls(i);
      h = 31 * h + x.count(i, 2);
      h = 31 * h + x.take(i, 0);
      h = 31 * h + x.take(i, 1);
      h = 31 * h + x.pays(1, i);
      h = 31 * h + x.rounds(i, 1);
      h = 31 * h + x.lost(7 * i);
      h = 31 * h + x.best(9, i);
    }
    for (int i = 0; i < 4; i++) h = 31 * h + x.whose(i);
    h = 31 * h + x.wrong(0);
    h = 31 * h + x.bound();
    h = 31 * h + x.struck(true);
    x.months(1);
    return 31 * h + x.digest();
  }

  private static void imageOfAll() {
    long want = answers(withAll());
    SteadyFund x = withAll();
    x.image(1);
    checks.due("an IMAGE moves nothing", answers(x), want);
    spoil(x);
    checks.due("from(1)", x.from(1), 1);
    checks.due("all is as it was", answers(x), want);
    SteadyFund fallen = withAll();
    fallen.image(0);
    spoil(fallen);
    fallen.image(1);
    long later = fallen.digest();
    fallen.from(0);
    fallen.from(1);
    checks.due("the other IMAGE is one of its own", fallen.digest(), later);
  }

  /** Promise 45. */
  private static void from() {
    SteadyFund x = rows(3);
    long before = x.digest();
    checks.refused("from(-1)", x, before, x.from(-1), SteadyFund.BAD);
    checks.refused("from(2)", x, before, x.from(2), SteadyFund.BAD);
    checks.refused("none was kept", x, before, x.from(0), SteadyFund.NO);
    x.image(1);
    checks.refused("none was kept", x, before, x.from(0), SteadyFund.NO);
    x.keep();
    x.alter(1, 6);
    x.even(3, 2, 2, 3);
    x.puts(0, 7);
    checks.due("from(1)", x.from(1), 1);
    checks.due("ROWS", x.many(1), 3);
    checks.due("the RECORD stays", x.many(10), 3);
    checks.due("the RECORD stays", x.check(0), 1);
    checks.due("THE FRACTION stays", x.part(0), 20);
    checks.due("IMAGES stay", x.from(1), 1);
    SteadyFund y = rows(2);
    y.image(0);
    y.months(1);
    y.draws(0, 1000);
    y.draws(0, 20);
    y.draws(1, 1017);
    y.terms(20, 50);
    y.from(0);
    y.puts(0, 1);
    y.from(0);
    checks.due("twice", y.many(1), 2);
  }

  /** Promise 46. */
  private static void many() {
    SteadyFund x = withAll();
    x.keep();
    x.trade(9, 1, 1, 1);
    x.hand(1, 1);
    x.suit(1, 1, 1);
    x.suit(1, 1, 1);
    x.gift(0, 1, 1, 1);
    x.gift(0, 1, 1, 1);
    x.gift(0, 1, 1, 1);
    x.puts(0, 1);
    x.person(0, true);
    int[] due = {3, 9, 8, 2, 1, 4, 1, 2, 3, 3, 8};
    for (int i = 0; i < due.length; i++) checks.due("many(" + i + ")", x.many(i), due[i]);
    checks.due("many(-1)", x.many(-1), SteadyFund.BAD);
    checks.due("many(11)", x.many(11), SteadyFund.BAD);
    checks.due("many(MAX)", x.many(Integer.MAX_VALUE), SteadyFund.BAD);
  }

  private static long told(long... values) {
    long h = 383;
    for (long v : values) h = 31 * h + v;
    return h;
  }

  /** Promise 47. */
  private static void digestOfNew() {
    long[] values = new long[11 + 6 + 8 * 9 + 2];
    values[14] = -1;
    values[values.length - 1] = 1;
    checks.due("of a new one", new SteadyFund().digest(), told(values));
  }

  private static void digestOfEach() {
    SteadyFund x = new SteadyFund();
    x.terms(5, 10);
    x.person(-1, true);
    x.person(6, false);
    x.puts(1, 1000);
    x.months(1);
    x.draws(1, 10);
    x.trade(3, 15, 5, 2);
    x.gift(1, 0, 2, 50);
    x.letter(1, 2, -1);
    x.hand(8, 4);
    x.suit(90, 10, 5);
    x.write('m');
    x.keep();
    x.alter(1, 1);
    x.even(1, 1, 1, 3);
    x.coin(7, 9);
    x.due(7, 0, 2);
    x.due(7, 6, 3);
    long[] head = {2, 2, 1, 1, 1, 1, 1, 1, 1, 1, 2, 985, 1000, 5, -1, 1000, 10,
        -1, 1, 0, 6, 0, 1000, 1, 0, 1000, 1, 1, -10, 3, 15, 5, 2, 1, 0, 2, 50};
    long[] all = new long[head.length + 72 + 3 + 2 + 3 + 1 + 2 + 2];
    System.arraycopy(head, 0, all, 0, head.length);
    int at = head.length + 63;
    for (long v : new long[] {9, 2, 0, 0, 0, 0, 0, 3, 0, 1, 2, -1, 8, 4, 90, 10, 5, 'm', 1000, -10 ^ 1, 1, 3}) all[at++] = v;
    checks.due("of each a little", x.digest(), told(all));
  }
}
