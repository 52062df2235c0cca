import java.math.BigInteger;
import java.util.ArrayList;
import java.util.Arrays;
import java.util.List;

/** Terms 5, promises 41 to 47: the edges of the RECORD, of what is ALTERED in it, of CHECK, IMAGES, many and digest. */
public final class EdgesOfRecordsTest {
  private static final Checks checks = new Checks("EdgesOfRecordsTest");
  private static final int BAD = SteadyFund.BAD, NO = SteadyFund.NO, NONE = SteadyFund.NONE;
  private static final int LEAST = Integer.MIN_VALUE, GREATEST = Integer.MAX_VALUE;

  public static void main(String[] args) {
    nothingKept();
    rowsAsTheyAre();
    keptAnew();
    masks();
    alteredNotPut();
    everyRowAlone();
    bothSealsRight();
    notOneRowAlone();
    anotherRowThanTheAltered();
    allSuchRows();
    whatBelowNone();
    noImageKept();
    eachImageOfItsOwn();
    allButTheRecord();
    fallenAndBack();
    fullAndBack();
    fullOfOtherNumbers();
    hiddenNumbersToo();
    eachSpanToo();
    objectsOfTheirOwn();
    manyOfEach();
    digestOfTheFull();
    checks.end();
  }

  /** ROWS of 1000, 1001 .. of one PERSON, all in month 0. */
  private static SteadyFund rows(int n) {
    SteadyFund x = new SteadyFund();
    x.person(0, true);
    for (int i = 0; i < n; i++) x.puts(0, 1000 + i);
    return x;
  }

  private static void check(SteadyFund x, String what, int... found) {
    checks.due(what + ": how many", x.check(NONE), found.length);
    for (int i = 0; i < found.length; i++) checks.due(what + ": the " + i + "-th", x.check(i), found[i]);
    for (int i : new int[] {found.length, found.length + 1, 100, GREATEST}) checks.due(what + ": not so many", x.check(i), -5);
  }

  private static void right(SteadyFund x, String what) {
    for (int i : new int[] {NONE, 0, 1, 99, 100, GREATEST}) checks.due(what + ": check(" + i + ")", x.check(i), NONE);
  }

  private static void nothingKept() {
    SteadyFund x = rows(3);
    right(x, "none kept");
    checks.due("no ROW of it", x.many(10), 0);
    checks.due("no ROW of it", x.alter(0, 1), BAD);
    checks.due("of none", new SteadyFund().keep(), 0);
    SteadyFund y = new SteadyFund();
    y.keep();
    right(y, "of none");
  }

  /** "ROWS as they are (sums of OUT less 0)": what comes later is not in it. */
  private static void rowsAsTheyAre() {
    SteadyFund x = rows(2), y = rows(2);
    for (SteadyFund z : new SteadyFund[] {x, y}) z.draws(0, 7);
    long empty = x.digest();
    checks.due("keep", x.keep(), 3);
    checks.due("keep", y.keep(), 3);
    checks.holds("the RECORD is in the digest", x.digest() != empty);
    checks.due("the sum of OUT is -7: to 0", x.alter(2, -7), 1);
    checks.due("to -7 again", x.alter(2, -7), 1);
    right(x, "as it was");
    x.puts(0, 5);
    x.months(1);
    x.draws(0, 5);
    checks.due("as they were", x.many(10), 3);
    right(x, "as they were");
    checks.due("no ROW 3", x.alter(3, 1), BAD);
  }

  private static void keptAnew() {
    SteadyFund x = rows(4);
    x.keep();
    x.alter(1, 5);
    x.alter(2, 9);
    checks.due("kept anew", x.keep(), 4);
    right(x, "kept anew");
    x.alter(3, 1);
    check(x, "the last", 3);
    x.puts(0, 5);
    checks.due("kept anew", x.keep(), 5);
    right(x, "kept anew");
    x.alter(4, 1);
    check(x, "the new one", 4);
    SteadyFund y = rows(5);
    y.image(0);
    y.puts(0, 5);
    y.keep();
    y.from(0);
    checks.due("fewer ROWS than ahead", y.keep(), 5);
    checks.due("fewer ROWS than ahead", y.alter(5, 1), BAD);
    right(y, "fewer ROWS than ahead");
  }

  /** "BAD: a mask 0": any other, below 0, too; twice is never. */
  private static void masks() {
    SteadyFund x = rows(3);
    x.keep();
    long before = x.digest();
    for (int mask : new int[] {1, 2, -1, -2, 1 << 30, LEAST, GREATEST, 1000, 1001}) {
      checks.due("mask " + mask, x.alter(1, mask), 1);
      checks.holds("it is another sum", x.digest() != before && x.check(NONE) != NONE);
      checks.due("mask 0", x.alter(1, 0), BAD);
      checks.due("mask " + mask, x.alter(1, mask), 1);
      checks.due("as before", x.digest(), before);
      right(x, "as before");
    }
  }

  /** "A sum in it may be ALTERED": in it, not the ROW. */
  private static void alteredNotPut() {
    SteadyFund x = rows(2);
    x.keep();
    x.alter(0, 8);
    checks.due("all IN", x.account(4), 2001);
    checks.due("COUNT 0", x.count(0, 0), 2001);
    checks.due("COIN", x.account(0), 2001);
    checks.due("kept anew", x.keep(), 2);
    right(x, "the ROW is as it was");
  }

  private static void everyRowAlone() {
    SteadyFund x = rows(100);
    x.keep();
    for (int r = 0; r < 100; r++) {
      x.alter(r, 1);
      checks.due("one", x.check(NONE), 1);
      checks.due("that one", x.check(0), r);
      x.alter(r, 1);
    }
    right(x, "all as they were");
    checks.due("row -1", x.alter(-1, 1), BAD);
    checks.due("row 100", x.alter(100, 1), BAD);
  }

  /** "both seals are right": ints that wrap, so the highest bits of two ROWS cancel out. */
  private static void bothSealsRight() {
    SteadyFund x = rows(3);
    x.keep();
    x.alter(0, LEAST);
    x.alter(2, LEAST);
    right(x, "two highest bits");
    x.alter(1, LEAST);
    check(x, "three highest bits", 0, 1, 2);
  }

  private static void notOneRowAlone() {
    SteadyFund x = rows(6);
    x.keep();
    x.alter(0, 1);
    x.alter(5, 1);
    check(x, "two ROWS");
    x.alter(3, 2);
    check(x, "three ROWS");
    x.alter(0, 1);
    x.alter(5, 1);
    check(x, "one ROW", 3);
  }

  /**
   * By h a ROW's sum weighs 31 to the 3rd of the next one's, by g 33 to the 3rd. Row 1 more by 31^3 + 33^3 and row 2 less
   * by 31^3 * 33^3 is, in both seals, as row 0 more by 1; and with one seal of other weights it would not be.
   */
  private static void anotherRowThanTheAltered() {
    int h = 31 * 31 * 31, g = 33 * 33 * 33;
    SteadyFund x = rows(3);
    x.keep();
    x.alter(1, 1001 ^ 1001 + h + g);
    check(x, "row 1", 1);
    x.alter(2, 1002 ^ 1002 - h * g);
    check(x, "as row 0", 0);
    x.alter(0, 1000 ^ 999);
    right(x, "with 1 less in row 0");
    x.alter(2, 1);
    check(x, "row 2 alone", 2);
  }

  /** "which (all such ROWS)": the higher the bit that is ALTERED, the more ROWS it could be; 31 and 33 are -1 and 1 of 32. */
  private static void allSuchRows() {
    SteadyFund x = rows(5);
    x.keep();
    x.alter(1, LEAST);
    check(x, "the highest bit", 0, 1, 2, 3, 4);
    x.alter(1, LEAST);
    x.alter(1, 1 << 30);
    check(x, "bit 30", 1, 3);
    x.alter(1, 1 << 30);
    x.alter(2, 1 << 27);
    check(x, "bit 27", 0, 2, 4);
    x.alter(2, 1 << 27);
    x.alter(2, 1 << 24);
    check(x, "bit 24: 33 by 31, to the 6th, is 129 of 256", 2);
    x.alter(2, 1 << 24);
    x.alter(4, 1 << 24);
    check(x, "bit 24: to the 12th it is 1", 0, 4);
  }

  /** "BAD": below NONE, be the seals right or not. */
  private static void whatBelowNone() {
    SteadyFund x = rows(2);
    for (int i = 0; i < 3; i++) {
      for (int what : new int[] {-2, -5, LEAST}) checks.due("check(" + what + ")", x.check(what), BAD);
      if (i == 0) x.keep();
      if (i == 1) x.alter(0, 3);
    }
  }

  /** "NO: none was kept": of that number. */
  private static void noImageKept() {
    for (int i = 0; i < 2; i++) {
      SteadyFund x = rows(2);
      long before = x.digest();
      checks.due("none", x.from(0), NO);
      checks.due("none", x.from(1), NO);
      checks.due("kept", x.image(i), 1);
      checks.due("of the other none", x.from(1 - i), NO);
      checks.due("nothing has changed", x.digest(), before);
      checks.due("it goes on", x.from(i), 1);
      checks.due("of the other none still", x.from(1 - i), NO);
    }
  }

  /** "IMAGES 0, 1": neither is the other, none moves when one goes on, and one kept anew is as then. */
  private static void eachImageOfItsOwn() {
    SteadyFund x = rows(1);
    x.image(0);
    x.puts(0, 5);
    x.image(1);
    x.puts(0, 5);
    int[] order = {0, 1, 1, 0, 1};
    for (int i : order) {
      checks.due("from(" + i + ")", x.from(i), 1);
      checks.due("ROWS of it", x.many(1), 1 + i);
      x.puts(0, 7);
      checks.due("it goes on", x.many(1), 2 + i);
    }
    x.image(0);
    x.from(1);
    checks.due("the other", x.many(1), 2);
    x.from(0);
    checks.due("kept anew", x.many(1), 3);
  }

  /** "keep all but them, the RECORD and THE FRACTION". */
  private static void allButTheRecord() {
    SteadyFund x = rows(3);
    x.image(0);
    x.puts(0, 9);
    x.keep();
    x.alter(3, 1);
    x.even(1, 1, 2, 3);
    checks.due("from", x.from(0), 1);
    checks.due("ROWS", x.many(1), 3);
    checks.due("ROWS of the RECORD", x.many(10), 4);
    check(x, "the RECORD", 3);
    checks.due("THE FRACTION: above", x.part(0), 2);
    checks.due("THE FRACTION: below", x.part(1), 3);
    x.image(1);
    x.tide(0);
    x.keep();
    x.from(1);
    checks.due("ROWS of the RECORD", x.many(10), 3);
    checks.due("THE FRACTION", x.part(1), 1);
    right(x, "the RECORD");
  }

  private static void fallenAndBack() {
    SteadyFund x = Scene.FALLEN.make();
    checks.due("FALLEN", x.puts(0, 1), NO);
    checks.due("from one that stood", x.from(0), 1);
    checks.due("it stands", x.account(3), NONE);
    checks.due("now", x.many(2), 0);
    checks.due("puts", x.puts(0, 1), 2);
    checks.due("from one that had FALLEN", x.from(1), 1);
    checks.due("FALLEN", x.account(3), 3);
    checks.due("FALLEN", x.puts(0, 1), NO);
    checks.due("FALLEN", x.months(1), NO);
  }

  /** From an empty IMAGE all comes anew, from a full one nothing more does. */
  private static void fullAndBack() {
    SteadyFund x = new SteadyFund();
    x.image(0);
    for (int i = 0; i < 12; i++) x.person(-1, true);
    for (int i = 0; i < 8; i++) x.hand(1, 1);
    for (int i = 0; i < 8; i++) x.suit(1, 1, 1);
    for (int i = 0; i < 20; i++) x.letter(0, 0, 0);
    for (int i = 0; i < 30; i++) x.gift(0, 1, 0, 1);
    for (int i = 0; i < 40; i++) x.trade(0, 1, 1, 1);
    for (int i = 0; i < 40; i++) x.write('1');
    x.image(1);
    long full = x.digest();
    x.from(0);
    checks.due("empty", x.digest(), new SteadyFund().digest());
    checks.due("a PERSON", x.person(-1, true), 0);
    checks.due("a HAND", x.hand(1, 1), 0);
    checks.due("a SUIT", x.suit(1, 1, 1), 0);
    checks.due("a LETTER", x.letter(0, 0, 0), 0);
    checks.due("a TRADE", x.trade(0, 1, 1, 1), 0);
    checks.due("a character", x.write('1'), 1);
    checks.due("no second PERSON", x.gift(0, 1, 0, 1), BAD);
    x.from(1);
    checks.due("full", x.digest(), full);
    checks.due("a PERSON", x.person(-1, true), SteadyFund.FULL);
    checks.due("a HAND", x.hand(1, 1), SteadyFund.FULL);
    checks.due("a SUIT", x.suit(1, 1, 1), SteadyFund.FULL);
    checks.due("a LETTER", x.letter(0, 0, 0), SteadyFund.FULL);
    checks.due("a GIFT", x.gift(0, 1, 0, 1), SteadyFund.FULL);
    checks.due("a TRADE", x.trade(0, 1, 1, 1), SteadyFund.FULL);
    checks.due("a character", x.write('1'), SteadyFund.FULL);
  }

  /** PERSONS, ROWS and GIFTS, as many as can come, with numbers that another v makes others. */
  private static void fillFund(SteadyFund x, int v) {
    for (int i = 0; i < 12; i++) x.person((i + v) % 8, (i + v) % 3 == 0);
    for (int i = 0; i < 100; i++) {
      x.puts((i + v) % 12, 1000 + 10 * i + v);
      if (i % 10 == 9) x.months(1 + v);
    }
    for (int i = 0; i < 30; i++) x.gift((i + v) % 12, (i + 5 + 3 * v) % 12, (7 * i + v) % 60, 40 + i + v);
    x.spans(11, 7 + v, 9 + v, 200000 * v, 300000 * v);
  }

  /** TRADES, HANDS, SUITS, LETTERS, RULES and DUES, likewise; by v = 1 two TRADES are at an end of what day 29 allows. */
  private static void fillRest(SteadyFund x, int v) {
    for (int i = 0; i < 40; i++) x.trade((i + 19 + v) % 30, 1 + i + v, 5 + v, (i + v) % 4);
    for (int i = 0; i < 20; i++) x.letter((i + v) % 4, i + v, i + 2 * v);
    for (int i = 0; i < 40; i++) x.write('0' + (i + v) % 10);
    for (int i = 0; i < 8; i++) {
      x.hand(99 + i << v, 1 + v);
      x.suit(100 + i + v, 10 + v, 3 + v);
      x.coin(i, 77 + v);
      x.due(i, (i + 7) % 8, 99 + v);
    }
    x.day(29, 10 + v, 42 - v, 7 - v);
  }

  private static void fill(SteadyFund x, boolean isFund, int v) {
    if (isFund) fillFund(x, v);
    else fillRest(x, v);
  }

  /** From an IMAGE of the full, filled anew with other numbers meanwhile: the last one of each comes back, too. */
  private static void fullOfOtherNumbers() {
    for (int i = 0; i < 2; i++) {
      SteadyFund due = new SteadyFund(), x = new SteadyFund();
      for (SteadyFund y : new SteadyFund[] {due, x}) {
        y.image(0);
        fill(y, i == 0, 1);
        y.image(1);
      }
      x.from(0);
      fill(x, i == 0, 2);
      checks.holds("other numbers", x.digest() != due.digest());
      x.from(1);
      checks.holds("as it was when full", Arrays.equals(Scene.answers(due), Scene.answers(x)));
    }
  }

  /** SPANS of each month, each of the four numbers: COIN that is just enough by them is one too few by others. */
  private static void eachSpanToo() {
    int[][] spans = {{10, 20, 30, 40}, {9, 20, 30, 40}, {10, 20, 30, 41}, {10, 19, 30, 40}, {10, 20, 31, 40}};
    for (int i = 0; i < 12; i++) {
      for (int other = 1; other < 5; other++) {
        SteadyFund x = new SteadyFund();
        x.person(0, true);
        x.puts(0, other < 3 ? 30 : 10);
        for (int kept : new int[] {0, other}) {
          int[] a = spans[kept], b = spans[other - kept];
          x.spans(i, a[0], a[1], a[2], a[3]);
          x.image(0);
          x.spans(i, b[0], b[1], b[2], b[3]);
          x.from(0);
          checks.due("SPANS as they were", x.falls(other < 3 ? 0 : 1), kept == 0 ? NONE : i);
        }
      }
    }
  }

  /** Two objects know nothing of each other. */
  private static void objectsOfTheirOwn() {
    SteadyFund x = rows(5), y = new SteadyFund();
    long empty = y.digest();
    x.keep();
    x.image(0);
    x.even(1, 1, 1, 2);
    Calls.rules(x, "m");
    x.coin(0, 5);
    x.due(0, 1, 9);
    checks.due("pays", x.pays(0, 0), 5);
    checks.due("the other one is new", y.digest(), empty);
    checks.due("it has no IMAGE", y.from(0), NO);
    checks.due("it pays nothing", y.pays(0, 0), 0);
    checks.due("its RULES are empty", y.fault(), 1);
    checks.due("its RECORD is empty", y.alter(0, 1), BAD);
    y.coin(0, 7);
    y.due(0, 1, 9);
    checks.due("each by its own", y.pays(0, 0), 7);
    checks.due("each by its own", x.pays(0, 0), 5);
  }

  /** What the digest does not tell: FEE, RATE, SPANS, days, INDEX, YEARS, STRUCK, and COIN and SHOWN as MONTHS ended. */
  private static void hiddenNumbersToo() {
    SteadyFund x = rows(1);
    x.puts(0, 100000);
    x.trade(4, 5, 6, 0);
    x.image(0);
    x.terms(20, 50);
    x.months(1);
    x.draws(0, 500);
    for (int i = 0; i < 12; i++) x.spans(i, 0, 0, 90000, 90000);
    x.day(4, 5, 5, 6);
    for (int m = 0; m < 60; m++) x.index(m, 1 + m);
    x.years(0, 0);
    x.struck(true);
    x.image(1);
    x.from(0);
    checks.due("SPANS", x.falls(0), NONE);
    checks.due("a day is shut", x.wrong(0), 1);
    checks.due("YEARS", x.take(0, 0), 0);
    for (int m = 0; m < 60; m++) checks.due("INDEX", x.index(m, 7), 100);
    checks.due("STRUCK", x.struck(false), NO);
    checks.due("MONTHS", x.lost(0), -1);
    x.months(1);
    checks.due("FEE", x.account(0), 101000);
    checks.due("RATE", x.shown(0), 102010);
    checks.due("COIN as it ended", x.lost(0), 0);
    x.from(1);
    checks.due("SPANS", x.falls(0), 1);
    checks.due("a day is open", x.wrong(0), 0);
    for (int m = 0; m < 60; m++) checks.due("INDEX", x.index(m, 7), 1 + m);
    checks.due("STRUCK", x.struck(true), NO);
    checks.due("COIN as it ended", x.lost(0), 2020);
    x.months(1);
    checks.due("FEE", x.account(0), (101000 - 2020 - 500) * 49 / 50 + 1);
  }

  /** many: "0 PERSONS .. 10 ROWS of the RECORD", each moved by its own call alone. */
  private static void manyOfEach() {
    String[] names = {"person", "puts", "months", "trade", "", "gift", "letter", "hand", "suit", "write", "keep"};
    int[][] numbers = {{0, 1}, {0, 5}, {3}, {0, 1, 1, 0}, {}, {0, 1, 0, 1}, {0, 0, 0}, {1, 1}, {1, 1, 1}, {'1'}, {}};
    int[] more = {1, 1, 3, 1, 0, 1, 1, 1, 1, 1, 2};
    for (int call = 0; call < names.length; call++) {
      if (names[call].isEmpty()) continue;
      SteadyFund x = new SteadyFund();
      x.person(0, true);
      x.person(0, true);
      x.puts(0, 8);
      x.puts(1, 8);
      int[] before = new int[11];
      for (int i = 0; i <= 10; i++) before[i] = x.many(i);
      Calls.call(x, names[call], numbers[call]);
      for (int i = 0; i <= 10; i++) {
        boolean isWrong = i == 4 && call == 3;
        checks.due("many(" + i + ") by " + names[call], x.many(i), before[i] + (i == call ? more[i] : isWrong ? 1 : 0));
      }
    }
    for (int what : new int[] {-1, 11, LEAST, GREATEST}) checks.due("many(" + what + ")", new SteadyFund().many(what), BAD);
  }

  /** All that the digest tells, of the fullest: longs that wrap, worked here without an end. */
  private static void digestOfTheFull() {
    SteadyFund x = Scene.FULL.make();
    x.keep();
    x.alter(99, 1);
    x.even(18, 17, 9, 10);
    for (int h = 0; h < 8; h++) {
      x.coin(h, 1000000 - h);
      for (int t = 0; t < 8; t++) x.due(h, t, 10000 - 10 * h - t);
    }
    List<Long> all = new ArrayList<>();
    for (int v : new int[] {12, 100, 12, 40, 40, 30, 20, 8, 8, 40, 100}) all.add((long) v);
    for (int i = 0; i < 6; i++) all.add(x.account(i));
    for (int p = 0; p < 12; p++) add(all, p % 9 - 1, 1 - p % 2, x.shown(p));
    for (int r = 0; r < 100; r++) add(all, r < 96 ? r % 12 : r - 96, r < 96 ? 0 : 12, r < 96 ? 100 + r : -9);
    for (int t = 0; t < 40; t++) add(all, t % 30, 1 + t, 1 + t, t % 4);
    for (int g = 0; g < 30; g++) add(all, g % 12, (g + 1) % 12, g, 1 + g);
    for (int h = 0; h < 8; h++) {
      add(all, 1000000 - h);
      for (int t = 0; t < 8; t++) add(all, h == t ? 0 : 10000 - 10 * h - t);
    }
    for (int i = 0; i < 20; i++) add(all, i % 4, i, i % 3 == 0 ? -1 : i);
    for (int i = 0; i < 8; i++) add(all, 15 << i, 1 + i);
    for (int i = 0; i < 8; i++) add(all, 10 + i, i, 1 + i);
    for (int i = 0; i < 40; i++) add(all, i == 39 ? 'm' : '!');
    for (int r = 0; r < 100; r++) add(all, r == 99 ? -9 ^ 1 : r < 96 ? 100 + r : -9);
    add(all, 450283905890997363L, 1000000000000000000L);
    BigInteger h = BigInteger.valueOf(383);
    for (long v : all) h = h.multiply(BigInteger.valueOf(31)).add(BigInteger.valueOf(v));
    checks.due("digest of the fullest", x.digest(), h.longValue());
    checks.due("asked again", x.digest(), h.longValue());
  }

  private static void add(List<Long> all, long... values) {
    for (long v : values) all.add(v);
  }
}
