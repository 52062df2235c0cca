/** Promises 41 to 47: the RECORD, IMAGES, many, digest. */
public final class RecordsTest {
  private static final Checks checks = new Checks("RecordsTest");

  public static void main(String[] args) {
    keep();
    alter();
    check();
    checkOfHighBits();
    checkOfOneSeal();
    image();
    imageOfAll();
    imageOfOtherRows();
    imageOfTheFallen();
    from();
    many();
    digestOfNew();
    digestOfEach();
    checks.end();
  }

  /** n ROWS of two PERSONS, a MONTH each. */
  private static SteadyFund rows(int n) {
    SteadyFund x = new SteadyFund();
    x.person(0, true);
    x.person(1, false);
    for (int i = 0; i < n; i++) {
      if (i % 3 == 2) x.draws(i % 2, 5 + i);
      else x.puts(i % 2, 1000 + 7 * i);
      if (i < 50) x.months(1);
    }
    return x;
  }

  /** Promise 41. */
  private static void keep() {
    SteadyFund x = new SteadyFund();
    checks.due("no ROWS", x.keep(), 0);
    checks.due("many(10)", x.many(10), 0);
    x = rows(9);
    checks.due("not kept yet", x.many(10), 0);
    checks.due("keep", x.keep(), 9);
    checks.due("many(10)", x.many(10), 9);
    x.puts(0, 5);
    checks.due("ROWS as they were", x.many(10), 9);
    checks.due("check", x.check(-1), -1);
    x.alter(3, 9);
    checks.due("kept anew", x.keep(), 10);
    checks.due("what was ALTERED is gone", x.check(-1), -1);
    checks.due("all 100", rows(100).keep(), 100);
  }

  /** Promise 42. */
  private static void alter() {
    SteadyFund x = rows(4);
    checks.due("none kept", x.alter(0, 1), SteadyFund.BAD);
    x.keep();
    x.puts(0, 8);
    long before = x.digest();
    checks.refused("row -1", x, before, x.alter(-1, 1), SteadyFund.BAD);
    checks.refused("row 4, not in it", x, before, x.alter(4, 1), SteadyFund.BAD);
    checks.refused("mask 0", x, before, x.alter(0, 0), SteadyFund.BAD);
    checks.due("alter(3, MIN)", x.alter(3, Integer.MIN_VALUE), 1);
    checks.holds("it shows in the digest", x.digest() != before);
    checks.due("the ROW itself stays", x.account(4), 1000 + 1007 + 1021 + 8);
    checks.due("alter(3, MIN)", x.alter(3, Integer.MIN_VALUE), 1);
    checks.due("XOR twice", x.digest(), before);
    checks.due("alter(0, -1)", x.alter(0, -1), 1);
    checks.due("alter(0, 5)", x.alter(0, 5), 1);
    checks.due("alter(0, -6)", x.alter(0, -6), 1);
    checks.due("XOR, not put", x.digest(), before);
  }

  /** Promise 43. */
  private static void check() {
    SteadyFund x = rows(20);
    checks.due("none kept", x.check(-1), -1);
    checks.due("none kept", x.check(0), -1);
    checks.due("what -2", x.check(-2), SteadyFund.BAD);
    checks.due("what MIN", x.check(Integer.MIN_VALUE), SteadyFund.BAD);
    x.keep();
    checks.due("both are right", x.check(-1), -1);
    checks.due("both are right", x.check(0), -1);
    checks.due("both are right", x.check(99), -1);
    for (int r = 0; r < 20; r++) {
      x.alter(r, 1 + 2 * r);
      checks.due("one ROW", x.check(-1), 1);
      checks.due("which", x.check(0), r);
      checks.due("not so many", x.check(1), -5);
      checks.due("not so many", x.check(Integer.MAX_VALUE), -5);
      x.alter(r, 1 + 2 * r);
      checks.due("right again", x.check(-1), -1);
    }
    x.alter(4, 3);
    x.alter(5, 3);
    checks.due("two ROWS: none does", x.check(-1), 0);
    checks.due("two ROWS: none does", x.check(0), -5);
    checks.due("what -2, though wrong", x.check(-2), SteadyFund.BAD);
  }

  /** Of a sum's highest bit alone every ROW could be it: the factors are odd. */
  private static void checkOfHighBits() {
    SteadyFund x = rows(100);
    x.keep();
    x.alter(40, Integer.MIN_VALUE);
    checks.due("all ROWS", x.check(-1), 100);
    for (int i = 0; i < 100; i++) checks.due("the i-th", x.check(i), i);
    checks.due("not so many", x.check(100), -5);
    x.alter(41, Integer.MIN_VALUE);
    checks.due("two highest bits are none", x.check(-1), -1);
    x.alter(41, Integer.MIN_VALUE);
    x.alter(40, Integer.MIN_VALUE);
    x.alter(40, 1 << 26);
    checks.due("33 by 31, to the 6, is 1 of 64: each other ROW", x.check(-1), 50);
    for (int i = 0; i < 50; i++) checks.due("the i-th", x.check(i), 2 * i);
    checks.due("not so many", x.check(50), -5);
  }

  /** Two ROWS ALTERED so that the changes cancel out in one seal, 31 or 33 to the 3rd to 1, and not in the other. */
  private static void checkOfOneSeal() {
    for (int times : new int[] {31, 33}) {
      SteadyFund x = new SteadyFund();
      x.person(0, true);
      x.puts(0, 77);
      x.puts(0, 1000);
      x.puts(0, 40000);
      x.keep();
      x.alter(1, 1);
      x.alter(2, 40000 ^ 40000 - times * times * times);
      checks.due("one seal alone is right", x.check(-1), 0);
      checks.due("one seal alone is right", x.check(0), -5);
      x.alter(1, 1);
      checks.due("the last ROW", x.check(0), 2);
    }
  }

  /** Promise 44. */
  private static void image() {
    SteadyFund x = rows(6);
    checks.due("image(-1)", x.image(-1), SteadyFund.BAD);
    checks.due("image(2)", x.image(2), SteadyFund.BAD);
    long before = x.digest();
    checks.due("image(0)", x.image(0), 1);
    checks.due("nothing else is moved", x.digest(), before);
    x.puts(0, 9);
    long later = x.digest();
    checks.due("image(1)", x.image(1), 1);
    checks.due("from(0)", x.from(0), 1);
    checks.due("as it was", x.digest(), before);
    checks.due("from(1)", x.from(1), 1);
    checks.due("as it was later", x.digest(), later);
    x.puts(0, 9);
    long latest = x.digest();
    checks.due("image(0) again", x.image(0), 1);
    x.puts(0, 9);
    checks.due("from(0)", x.from(0), 1);
    checks.due("the later one", x.digest(), latest);
  }

  private static SteadyFund withAll() {
    return fill(new SteadyFund(), 0);
  }

  /** Something of all, other numbers by another v. */
  private static SteadyFund fill(SteadyFund x, int v) {
    x.terms(7 - v, 30 + v);
    for (int i = 0; i < 3; i++) x.person((i + v) % 3, v == 0 ? i != 1 : i == 1);
    for (int i = 0; i < 6; i++) {
      x.puts((i + v) % 3, 1000 + 7 * i + v);
      x.months(1 + v % 2);
      x.draws((i + 1 + v) % 3, 40 + i + v);
    }
    x.months(9);
    x.puts((1 + v) % 3, 10000);
    x.draws(v == 0 ? 0 : 1, 2050 + v);
    x.draws(v == 0 ? 1 : 0, 30 + v);
    x.months(1);
    x.spans(2, 100 + v, 105 + 2 * v, 15000 - v, 16000 - v);
    x.spans(v, v, 2 * v, 15000, 16000);
    x.day(3, 10 + v, 20 + v, 30 + v);
    x.trade(3 - v % 2, 15, 5 + v, 2 - v % 2);
    x.trade(4, 100 - v, 6 + v, 1);
    x.trade(3, 11, 22 + 7 * v, 3);
    x.index(3, 80 + v);
    x.index(15 + v, 120 - v);
    x.gift((0 + v) % 3, (1 + v) % 3, 2 + v, 50 + v);
    x.gift((1 + v) % 3, (2 + v) % 3, 1, 45 + v);
    x.years(20 - v, 5 + v);
    x.coin(1, 60 + v);
    x.due(1, 2, 100 + v);
    x.struck(v % 2 == 0);
    x.letter(1 + v % 2, 2 + v, 3 + v);
    x.letter(2 - v % 2, 4 + v, -1 + (v == 0 ? 0 : 9));
    for (char c : "s>c*2-q".toCharArray()) x.write(v == 0 ? c : c == '2' ? '1' : c);
    x.hand(8 + v % 2 * 16, 4 + v % 2 * 4);
    x.hand(24, 14 - v % 2 * 2);
    x.suit(90 + v, 10 + v, 5 + v);
    x.suit(80 - v, 9 - v, 4 + v);
    return x;
  }

  private static void spoil(SteadyFund x) {
    x.person(3, true);
    x.terms(0, 0);
    x.puts(0, 70000);
    x.months(3);
    x.draws(0, 70);
    x.spans(2, 0, 0, 0, 0);
    x.spans(1, 0, 0, 400000, 500000);
    x.day(3, 1, 2, 3);
    x.day(4, 1, 2, 3);
    x.trade(4, 15, 5, 2);
    x.index(3, 1);
    x.index(8, 1000);
    x.gift(1, 0, 2, 50);
    x.years(0, 0);
    x.coin(1, 5);
    x.coin(2, 5);
    x.due(1, 2, 1);
    x.due(2, 1, 7);
    x.struck(false);
    x.letter(1, 0, 0);
    x.erase();
    x.write('0');
    x.hand(1, 1);
    x.suit(1000, 10, 1);
  }

  /** What an object answers that the digest does not tell. */
  private static long answers(SteadyFund x) {
    long h = x.digest();
    for (int i = 0; i < 2; i++) {
      h = 31 * h + x.falls(i);
      h = 31 * h + x.count(i + 1, 2);
      h = 31 * h + x.take(i, 0);
      h = 31 * h + x.take(i, 1);
      h = 31 * h + x.dealt(i, 3, 5000);
      h = 31 * h + x.pays(1, i);
      h = 31 * h + x.rounds(i, 1);
      h = 31 * h + x.lost(7 * i);
      h = 31 * h + x.best(9, i);
    }
    for (int i = 0; i < 4; i++) h = 31 * h + x.whose(i);
    h = 31 * h + x.wrong(0);
    h = 31 * h + x.bound();
    h = 31 * h + x.struck(true);
    x.months(1);
    return 31 * h + x.digest();
  }

  private static void imageOfAll() {
    long want = answers(withAll());
    SteadyFund x = withAll();
    x.image(1);
    checks.due("an IMAGE moves nothing", answers(x), want);
    spoil(x);
    checks.due("from(1)", x.from(1), 1);
    checks.due("all is as it was", answers(x), want);
    SteadyFund two = withAll();
    two.image(0);
    spoil(two);
    two.image(1);
    long later = two.digest();
    two.from(0);
    two.from(1);
    checks.due("the other IMAGE is one of its own", two.digest(), later);
  }

  /** What was ahead of the IMAGE is begun anew with other numbers: each ROW of each kind comes back. */
  private static void imageOfOtherRows() {
    for (int v = 0; v < 4; v++) {
      long want = answers(fill(new SteadyFund(), v));
      for (int w = 0; w < 4; w++) {
        SteadyFund x = new SteadyFund();
        x.image(0);
        fill(x, v).image(1);
        x.from(0);
        checks.due("a new one again", x.digest(), new SteadyFund().digest());
        long other = answers(fill(x, w));
        checks.holds("other numbers, other answers", v == w || other != want);
        x.from(1);
        checks.due("filled by " + v + ", then by " + w, answers(x), want);
      }
    }
  }

  private static void imageOfTheFallen() {
    SteadyFund x = rows(2);
    x.image(0);
    x.terms(20, 50);
    x.months(2);
    checks.due("draws", x.draws(0, 1000), 1);
    checks.due("it falls", x.draws(1, 1020), 0);
    x.image(1);
    x.from(0);
    checks.due("it stands again", x.account(3), SteadyFund.NONE);
    checks.due("puts", x.puts(0, 5), 2);
    x.from(1);
    checks.due("it has fallen again", x.account(3), 4);
    checks.due("puts", x.puts(0, 5), SteadyFund.NO);
  }

  /** Promise 45. */
  private static void from() {
    SteadyFund x = rows(3);
    long before = x.digest();
    checks.refused("from(-1)", x, before, x.from(-1), SteadyFund.BAD);
    checks.refused("from(2)", x, before, x.from(2), SteadyFund.BAD);
    checks.refused("none was kept", x, before, x.from(0), SteadyFund.NO);
    x.image(1);
    checks.refused("none was kept", x, before, x.from(0), SteadyFund.NO);
    x.keep();
    x.alter(1, 6);
    x.even(3, 2, 2, 3);
    x.puts(0, 7);
    checks.due("from(1)", x.from(1), 1);
    checks.due("ROWS", x.many(1), 3);
    checks.due("the RECORD stays", x.many(10), 3);
    checks.due("the RECORD stays", x.check(0), 1);
    checks.due("THE FRACTION stays", x.part(0), 20);
    checks.due("IMAGES stay", x.from(1), 1);
    x.puts(0, 1);
    checks.due("from(1)", x.from(1), 1);
    checks.due("twice", x.many(1), 3);
  }

  /** Promise 46. */
  private static void many() {
    SteadyFund x = rows(8);
    x.keep();
    x.puts(0, 1);
    for (int i = 0; i < 1; i++) x.person(0, true);
    x.day(3, 10, 20, 30);
    for (int i = 0; i < 5; i++) x.trade(3, i == 4 ? 21 : 15, 10, 0);
    for (int i = 0; i < 6; i++) x.gift(0, 1, 1, 1);
    for (int i = 0; i < 4; i++) x.letter(0, 0, 0);
    for (int i = 0; i < 7; i++) x.hand(1, 1);
    x.suit(1, 1, 1);
    for (int i = 0; i < 12; i++) x.write('m');
    int[] due = {3, 9, 8, 5, 2, 6, 4, 7, 1, 12, 8};
    for (int i = 0; i < due.length; i++) checks.due("many(" + i + ")", x.many(i), due[i]);
    checks.due("many(-1)", x.many(-1), SteadyFund.BAD);
    checks.due("many(11)", x.many(11), SteadyFund.BAD);
    checks.due("many(MAX)", x.many(Integer.MAX_VALUE), SteadyFund.BAD);
  }

  private static long told(long... values) {
    long h = 383;
    for (long v : values) h = 31 * h + v;
    return h;
  }

  /** Promise 47. */
  private static void digestOfNew() {
    long[] values = new long[11 + 6 + 8 * 9 + 2];
    values[14] = -1;
    values[values.length - 1] = 1;
    checks.due("of a new one", new SteadyFund().digest(), told(values));
  }

  private static void digestOfEach() {
    SteadyFund x = new SteadyFund();
    x.terms(5, 10);
    x.person(-1, true);
    x.person(6, false);
    x.person(3, true);
    x.puts(1, 1000);
    x.months(1);
    x.draws(1, 10);
    x.puts(2, 8);
    x.day(3, 10, 20, 30);
    x.trade(3, 15, 5, 2);
    x.trade(4, 16, 6, 1);
    x.gift(1, 2, 3, 50);
    x.letter(1, 2, -1);
    x.letter(3, 4, 5);
    x.hand(8, 4);
    x.suit(90, 10, 5);
    x.write('m');
    x.write('!');
    x.keep();
    x.alter(1, 1);
    x.even(1, 1, 1, 3);
    x.coin(7, 9);
    x.due(7, 0, 2);
    x.due(7, 6, 3);
    long[] head = {3, 3, 1, 2, 1, 1, 2, 1, 1, 2, 3, 993, 1008, 5, -1, 1008, 10,
        -1, 1, 0, 6, 0, 1000, 3, 1, 8, 1, 0, 1000, 1, 1, -10, 2, 1, 8, 3, 15, 5, 2, 4, 16, 6, 1, 1, 2, 3, 50};
    long[] tail = {9, 2, 0, 0, 0, 0, 0, 3, 0, 1, 2, -1, 3, 4, 5, 8, 4, 90, 10, 5, 'm', '!', 1000, -10 ^ 1, 8, 1, 3};
    long[] all = new long[head.length + 63 + tail.length];
    System.arraycopy(head, 0, all, 0, head.length);
    System.arraycopy(tail, 0, all, head.length + 63, tail.length);
    checks.due("of each a little", x.digest(), told(all));
  }
}
