import java.util.Arrays;

/** A fund that shows what it never earned, and all that is asked of it afterwards. */
public final class SteadyFund {
  public static final int NONE = -1, BAD = -2, NO = -3, FULL = -4;

  private static final int NO_SUCH = -5;
  private static final int MONTHS = 60, MOST_ENDING = 12, SPANS = 12;
  private static final int PERSONS = 12, ROWS = 100, MOST_SUM = 1000000;
  private static final int DAYS = 30, TRADES = 40, FLOORS = 4, MOST_PRICE = 10000;
  private static final int MOST_SOLD = 100000, MOST_EVEN = 18, MOST_FUNDS = 1000000;
  private static final int COUNTS = 3, BY_TIDE = 3, GIFTS = 30, MOST_YEARS = 60;
  private static final int MOST_DEALT = 10000000, MOST_INDEX = 1000;
  private static final int HOUSES = 8, MOST_COIN = 1000000, MOST_DUE = 10000;
  private static final int LETTERS = 20, OFFICES = 4, CHARACTERS = 40;
  private static final int HANDS = 8, SUITS = 8, MOST_BRINGS = 100000;
  private static final int MOST_SUIT_MONTHS = 24, MOST_BEST_MONTHS = 60;
  private static final int IMAGES = 2, MANIES = 11, ACCOUNTS = 6;

  private final World world = new World();
  private final World[] images = new World[IMAGES];
  private final SealedRecord kept = new SealedRecord();
  private final Fraction fraction = new Fraction();
  private final Tide rising = new Tide();
  private final Clearing least = new Clearing(false);
  private final Clearing greatest = new Clearing(true);
  private final RuleReader reader = new RuleReader();

  public SteadyFund() {
  }

  // ---- the fund

  public int person(int house, boolean good) {
    if (!within(house, NONE, HOUSES - 1)) return BAD;
    if (world.ledger.persons >= PERSONS) return FULL;
    return world.ledger.addPerson(house, good);
  }

  public int terms(int fee, int rate) {
    if (!within(fee, 0, 20) || !within(rate, 0, 50)) return BAD;
    world.ledger.fee = fee;
    world.ledger.rate = rate;
    return 1;
  }

  public int puts(int person, int sum) {
    Ledger ledger = world.ledger;
    if (!ledger.has(person) || !within(sum, 1, MOST_SUM)) return BAD;
    if (ledger.fell != NONE) return NO;
    if (ledger.rows >= ROWS) return FULL;
    return ledger.addRow(person, sum);
  }

  public int draws(int person, int sum) {
    Ledger ledger = world.ledger;
    if (!ledger.has(person) || !within(sum, 1, MOST_SUM)) return BAD;
    if (ledger.fell != NONE || sum > ledger.shownTo[person]) return NO;
    if (ledger.rows >= ROWS) return FULL;
    if (ledger.coins < sum) {
      ledger.fell = ledger.now;
      return 0;
    }
    ledger.addRow(person, -sum);
    return 1;
  }

  public int months(int n) {
    Ledger ledger = world.ledger;
    if (!within(n, 1, MOST_ENDING) || ledger.now + n >= MONTHS) return BAD;
    if (ledger.fell != NONE) return NO;
    for (int i = 0; i < n; i++) ledger.endMonth();
    return ledger.now;
  }

  public long shown(int person) {
    return world.ledger.has(person) ? world.ledger.shownTo[person] : -1;
  }

  public long account(int what) {
    Ledger ledger = world.ledger;
    switch (what) {
      case 0: return ledger.coins;
      case 1: return ledger.shownToAll();
      case 2: return ledger.feesGone;
      case 3: return ledger.fell;
      case 4: return ledger.inOfAll(0, MONTHS);
      case 5: return ledger.outOfAll(0, MONTHS);
      default: return BAD;
    }
  }

  public int spans(int i, int in0, int in1, int out0, int out1) {
    if (!within(i, 0, SPANS - 1)) return BAD;
    if (!isSpan(in0, in1) || !isSpan(out0, out1)) return BAD;
    Ledger ledger = world.ledger;
    ledger.leastIn[i] = in0;
    ledger.mostIn[i] = in1;
    ledger.leastOut[i] = out0;
    ledger.mostOut[i] = out1;
    return 1;
  }

  public int falls(int what) {
    Ledger ledger = world.ledger;
    switch (what) {
      case 0: return ledger.firstBelow(ledger.leastIn, ledger.mostOut);
      case 1: return ledger.firstBelow(ledger.mostIn, ledger.leastOut);
      default: return BAD;
    }
  }

  // ---- the paper

  public int day(int day, int low, int high, int sold) {
    if (!within(day, 0, DAYS - 1) || !within(low, 1, MOST_PRICE)) return BAD;
    if (!within(high, low, MOST_PRICE) || !within(sold, 0, MOST_SOLD)) return BAD;
    world.paper.low[day] = low;
    world.paper.high[day] = high;
    world.paper.sold[day] = sold;
    return 1;
  }

  public int trade(int day, int price, int amount, int floor) {
    if (!within(day, 0, DAYS - 1) || !within(price, 1, MOST_PRICE)) return BAD;
    if (!within(amount, 1, MOST_SOLD) || !within(floor, 0, FLOORS - 1)) return BAD;
    if (world.paper.trades >= TRADES) return FULL;
    return world.paper.addTrade(day, price, amount, floor);
  }

  public int wrong(int trade) {
    if (!within(trade, 0, world.paper.trades - 1)) return BAD;
    return world.paper.wrongOf(trade);
  }

  public int first() {
    return world.paper.firstWrong();
  }

  public int even(int n, int k, int a, int b) {
    if (!isEven(n, k, a, b)) return BAD;
    fraction.become(waysUp(n, k, a, b), power(b, n));
    return 1;
  }

  public int funds(int n, int k, int a, int b, int w) {
    if (!isEven(n, k, a, b) || !within(w, 1, MOST_FUNDS)) return BAD;
    return (int) partOf(w, waysUp(n, k, a, b), power(b, n));
  }

  public long part(int what) {
    switch (what) {
      case 0: return fraction.above;
      case 1: return fraction.below;
      default: return -1;
    }
  }

  // ---- counts

  public int index(int month, int v) {
    if (!within(month, 0, MONTHS - 1) || !within(v, 1, MOST_INDEX)) return BAD;
    int was = world.claims.indexOf[month];
    world.claims.indexOf[month] = v;
    return was;
  }

  public long count(int person, int which) {
    if (person != NONE && !world.ledger.has(person)) return -1;
    if (!within(which, 0, COUNTS - 1)) return -1;
    if (person == NONE) return world.claims.countOfAll(world.ledger, which);
    return world.claims.countOf(world.ledger, person, which);
  }

  public long dealt(int person, int which, int sum) {
    if (!world.ledger.has(person) || !within(which, 0, BY_TIDE)) return -1;
    if (!within(sum, 0, MOST_DEALT)) return -1;
    if (which != BY_TIDE) return world.claims.dealtTo(world.ledger, person, which, sum);
    rising.rise(world.ledger, sum);
    return rising.paidTo(person);
  }

  public int tide(int sum) {
    if (!within(sum, 0, MOST_DEALT)) return BAD;
    rising.rise(world.ledger, sum);
    fraction.become(rising.above, rising.below);
    return 1;
  }

  public int moved(int sum, int which) {
    if (!within(sum, 0, MOST_DEALT) || !within(which, 0, 1)) return BAD;
    rising.rise(world.ledger, sum);
    int bits = 0;
    for (int p = 0; p < world.ledger.persons; p++) {
      long more = rising.paidTo(p) - world.claims.dealtTo(world.ledger, p, 0, sum);
      if (which == 0 ? more > 0 : more < 0) bits |= 1 << p;
    }
    return bits;
  }

  public int gift(int from, int to, int month, int sum) {
    if (!world.ledger.has(from) || !world.ledger.has(to) || from == to) return BAD;
    if (!within(month, 0, MONTHS - 1) || !within(sum, 1, MOST_SUM)) return BAD;
    if (world.claims.gifts >= GIFTS) return FULL;
    return world.claims.addGift(from, to, month, sum);
  }

  public int years(int good, int bad) {
    if (!within(good, 0, MOST_YEARS) || !within(bad, 0, MOST_YEARS)) return BAD;
    world.claims.yearsOfGood = good;
    world.claims.yearsOfBad = bad;
    return 1;
  }

  public long take(int person, int which) {
    if (!world.ledger.has(person) || !within(which, 0, 1)) return -1;
    if (which == 0) return world.claims.toTakeFrom(world.ledger, person);
    return world.claims.takenFrom(world.ledger, person);
  }

  // ---- houses

  public int coin(int house, int v) {
    if (!within(house, 0, HOUSES - 1) || !within(v, 0, MOST_COIN)) return BAD;
    int was = world.houses.own[house];
    world.houses.own[house] = v;
    return was;
  }

  public int due(int from, int to, int v) {
    if (!within(from, 0, HOUSES - 1) || !within(to, 0, HOUSES - 1)) return BAD;
    if (from == to || !within(v, 0, MOST_DUE)) return BAD;
    int was = world.houses.owed[from * HOUSES + to];
    world.houses.owed[from * HOUSES + to] = v;
    return was;
  }

  public int struck(boolean is) {
    if (world.houses.isStruck == is) return NO;
    world.houses.isStruck = is;
    return 1;
  }

  public int pays(int house, int which) {
    if (!within(house, 0, HOUSES - 1) || !within(which, 0, 1)) return BAD;
    return (int) agreed(which).pay[house];
  }

  public int rounds(int which, int what) {
    if (!within(which, 0, 1) || !within(what, 0, 1)) return BAD;
    Clearing payments = agreed(which);
    return what == 0 ? payments.changes : payments.fallen();
  }

  // ---- letters, hands, suits

  public int letter(int office, int asked, int read) {
    if (!within(office, 0, OFFICES - 1) || !within(asked, 0, MONTHS - 1)) return BAD;
    if (read != NONE && !within(read, asked, MONTHS - 1)) return BAD;
    if (world.letters.size >= LETTERS) return FULL;
    return world.letters.addLetter(office, asked, read);
  }

  public int write(int character) {
    if (!within(character, 0, 127)) return BAD;
    if (world.letters.length >= CHARACTERS) return FULL;
    world.letters.rules[world.letters.length] = character;
    world.letters.length++;
    return world.letters.length;
  }

  public int erase() {
    int were = world.letters.length;
    world.letters.length = 0;
    return were;
  }

  public int fault() {
    return reader.faultOf(world.letters);
  }

  public long bound() {
    if (reader.faultOf(world.letters) != NONE) return NO;
    long bits = 0;
    for (int m = 0; m < world.ledger.now; m++) {
      reader.learn(world.ledger, world.letters, m);
      if (reader.valueRead() != 0) bits |= 1L << m;
    }
    return bits;
  }

  public long lost(int month) {
    if (!within(month, 0, world.ledger.now - 1)) return -1;
    return world.ledger.lostBy(month);
  }

  public int hand(int days, int floors) {
    if (!within(days, 0, (1 << DAYS) - 1)) return BAD;
    if (!within(floors, 0, (1 << FLOORS) - 1)) return BAD;
    if (world.paper.hands >= HANDS) return FULL;
    return world.paper.addHand(days, floors);
  }

  public int whose(int what) {
    if (!within(what, 0, 3)) return BAD;
    return world.paper.leastSets(what);
  }

  public int suit(int brings, int cost, int months) {
    if (!within(brings, 1, MOST_BRINGS) || !within(cost, 0, MOST_BRINGS)) return BAD;
    if (!within(months, 1, MOST_SUIT_MONTHS)) return BAD;
    if (world.claims.suits >= SUITS) return FULL;
    return world.claims.addSuit(brings, cost, months);
  }

  public int best(int m, int what) {
    if (!within(m, 0, MOST_BEST_MONTHS) || !within(what, 0, 1)) return BAD;
    int set = world.claims.bestSet(m);
    return what == 0 ? set : world.claims.gainOf(set);
  }

  // ---- records

  public int keep() {
    kept.copyRows(world.ledger);
    return kept.rows;
  }

  public int alter(int row, int mask) {
    if (!within(row, 0, kept.rows - 1) || mask == 0) return BAD;
    kept.sum[row] ^= mask;
    return 1;
  }

  public int check(int what) {
    if (what < NONE) return BAD;
    return kept.findAltered(what);
  }

  public int image(int i) {
    if (!within(i, 0, IMAGES - 1)) return BAD;
    if (images[i] == null) images[i] = new World();
    images[i].copyFrom(world);
    return 1;
  }

  public int from(int i) {
    if (!within(i, 0, IMAGES - 1)) return BAD;
    if (images[i] == null) return NO;
    world.copyFrom(images[i]);
    return 1;
  }

  public int many(int what) {
    switch (what) {
      case 0: return world.ledger.persons;
      case 1: return world.ledger.rows;
      case 2: return world.ledger.now;
      case 3: return world.paper.trades;
      case 4: return world.paper.wrongOnes();
      case 5: return world.claims.gifts;
      case 6: return world.letters.size;
      case 7: return world.paper.hands;
      case 8: return world.claims.suits;
      case 9: return world.letters.length;
      case 10: return kept.rows;
      default: return BAD;
    }
  }

  public long digest() {
    long h = 383;
    for (int i = 0; i < MANIES; i++) h = 31 * h + many(i);
    for (int i = 0; i < ACCOUNTS; i++) h = 31 * h + account(i);
    h = world.ledger.digested(h);
    h = world.paper.digestedTrades(h);
    h = world.claims.digestedGifts(h);
    h = world.houses.digested(h);
    h = world.letters.digestedLetters(h);
    h = world.paper.digestedHands(h);
    h = world.claims.digestedSuits(h);
    h = world.letters.digestedRules(h);
    h = kept.digested(h);
    h = 31 * h + fraction.above;
    return 31 * h + fraction.below;
  }

  private Clearing agreed(int which) {
    Clearing payments = which == 0 ? least : greatest;
    payments.settle(world);
    return payments;
  }

  private static boolean within(int v, int low, int high) {
    return low <= v && v <= high;
  }

  private static boolean isSpan(int low, int high) {
    return within(low, 0, MOST_SUM) && within(high, low, MOST_SUM);
  }

  private static boolean isEven(int n, int k, int a, int b) {
    return within(n, 1, MOST_EVEN) && within(k, 0, n) && within(b, 2, 10) && within(a, 1, b - 1);
  }

  /** Of the b to the n equal ways, those with at least k up: 10 to the 18 at most, so no long wraps. */
  private static long waysUp(int n, int k, int a, int b) {
    long ways = 0;
    for (int up = k; up <= n; up++) ways += choose(n, up) * power(a, up) * power(b - a, n - up);
    return ways;
  }

  private static long choose(int n, int k) {
    long ways = 1;
    for (int i = 1; i <= k; i++) ways = cut(ways * (n - k + i), i);
    return ways;
  }

  private static long power(long base, int times) {
    long p = 1;
    for (int i = 0; i < times; i++) p *= base;
    return p;
  }

  /** w times above by below, cut, for above no more than below: bit by bit, as the product outgrows a long. */
  private static long partOf(int w, long above, long below) {
    long whole = 0, rest = 0;
    for (int bit = 30; bit >= 0; bit--) {
      rest = 2 * rest + ((w >> bit & 1) == 1 ? above : 0);
      whole = 2 * whole + cut(rest, below);
      rest -= cut(rest, below) * below;
    }
    return whole;
  }

  private static long cut(long above, long below) {
    return below == 0 ? 0 : above / below;
  }

  /** All that an IMAGE keeps. */
  private static final class World {
    final Ledger ledger = new Ledger();
    final Paper paper = new Paper();
    final Claims claims = new Claims();
    final Houses houses = new Houses();
    final Letters letters = new Letters();

    void copyFrom(World other) {
      ledger.copyFrom(other.ledger);
      paper.copyFrom(other.paper);
      claims.copyFrom(other.claims);
      houses.copyFrom(other.houses);
      letters.copyFrom(other.letters);
    }
  }

  /** PERSONS, THE ACCOUNT, its ROWS (of OUT the sum is below 0), the months that ended and SPANS of those to come. */
  private static final class Ledger {
    final int[] house = new int[PERSONS];
    final int[] faith = new int[PERSONS];
    final long[] shownTo = new long[PERSONS];
    int persons;
    final int[] rowPerson = new int[ROWS];
    final int[] rowMonth = new int[ROWS];
    final int[] rowSum = new int[ROWS];
    int rows;
    int now;
    int fee;
    int rate = 10;
    long coins;
    long feesGone;
    int fell = NONE;
    final long[] coinsAtEnd = new long[MONTHS];
    final long[] shownAtEnd = new long[MONTHS];
    final int[] leastIn = new int[SPANS];
    final int[] mostIn = new int[SPANS];
    final int[] leastOut = new int[SPANS];
    final int[] mostOut = new int[SPANS];

    boolean has(int person) {
      return within(person, 0, persons - 1);
    }

    int addPerson(int itsHouse, boolean isGood) {
      house[persons] = itsHouse;
      faith[persons] = isGood ? 1 : 0;
      shownTo[persons] = 0;
      persons++;
      return persons - 1;
    }

    int addRow(int person, int sum) {
      rowPerson[rows] = person;
      rowMonth[rows] = now;
      rowSum[rows] = sum;
      coins += sum;
      shownTo[person] += sum;
      rows++;
      return rows - 1;
    }

    void endMonth() {
      long gone = coins * fee / 1000;
      coins -= gone;
      feesGone += gone;
      for (int p = 0; p < persons; p++) shownTo[p] += shownTo[p] * rate / 1000;
      coinsAtEnd[now] = coins;
      shownAtEnd[now] = shownToAll();
      now++;
    }

    long shownToAll() {
      long all = 0;
      for (int p = 0; p < persons; p++) all += shownTo[p];
      return all;
    }

    long inOfAll(int firstMonth, int lastMonth) {
      long all = 0;
      for (int r = 0; r < rows; r++) {
        if (rowSum[r] > 0 && firstMonth <= rowMonth[r] && rowMonth[r] <= lastMonth) all += rowSum[r];
      }
      return all;
    }

    long outOfAll(int firstMonth, int lastMonth) {
      long all = 0;
      for (int r = 0; r < rows; r++) {
        if (rowSum[r] < 0 && firstMonth <= rowMonth[r] && rowMonth[r] <= lastMonth) all -= rowSum[r];
      }
      return all;
    }

    long inOf(int person) {
      long all = 0;
      for (int r = 0; r < rows; r++) {
        if (rowPerson[r] == person && rowSum[r] > 0) all += rowSum[r];
      }
      return all;
    }

    long outOf(int person, int firstMonth) {
      long all = 0;
      for (int r = 0; r < rows; r++) {
        if (rowPerson[r] == person && rowSum[r] < 0 && rowMonth[r] >= firstMonth) all -= rowSum[r];
      }
      return all;
    }

    /** IN less OUT till the end of that month, 0 at least. */
    long netOf(int person, int lastMonth) {
      long all = 0;
      for (int r = 0; r < rows; r++) {
        if (rowPerson[r] == person && rowMonth[r] <= lastMonth) all += rowSum[r];
      }
      return Math.max(0, all);
    }

    long lostBy(int month) {
      long all = 0;
      for (int p = 0; p < persons; p++) all += netOf(p, month);
      return Math.max(0, all - coinsAtEnd[month]);
    }

    int firstBelow(int[] comesIn, int[] isDrawn) {
      long left = coins;
      for (int i = 0; i < SPANS; i++) {
        left += comesIn[i] - isDrawn[i];
        if (left < 0) return i;
      }
      return NONE;
    }

    long digested(long before) {
      long h = before;
      for (int p = 0; p < persons; p++) {
        h = 31 * h + house[p];
        h = 31 * h + faith[p];
        h = 31 * h + shownTo[p];
      }
      for (int r = 0; r < rows; r++) {
        h = 31 * h + rowPerson[r];
        h = 31 * h + rowMonth[r];
        h = 31 * h + rowSum[r];
      }
      return h;
    }

    void copyFrom(Ledger other) {
      System.arraycopy(other.house, 0, house, 0, PERSONS);
      System.arraycopy(other.faith, 0, faith, 0, PERSONS);
      System.arraycopy(other.shownTo, 0, shownTo, 0, PERSONS);
      persons = other.persons;
      System.arraycopy(other.rowPerson, 0, rowPerson, 0, ROWS);
      System.arraycopy(other.rowMonth, 0, rowMonth, 0, ROWS);
      System.arraycopy(other.rowSum, 0, rowSum, 0, ROWS);
      rows = other.rows;
      now = other.now;
      fee = other.fee;
      rate = other.rate;
      coins = other.coins;
      feesGone = other.feesGone;
      fell = other.fell;
      System.arraycopy(other.coinsAtEnd, 0, coinsAtEnd, 0, MONTHS);
      System.arraycopy(other.shownAtEnd, 0, shownAtEnd, 0, MONTHS);
      System.arraycopy(other.leastIn, 0, leastIn, 0, SPANS);
      System.arraycopy(other.mostIn, 0, mostIn, 0, SPANS);
      System.arraycopy(other.leastOut, 0, leastOut, 0, SPANS);
      System.arraycopy(other.mostOut, 0, mostOut, 0, SPANS);
    }
  }

  /** The days of THE PAPER, the TRADES held against them and the HANDS that were there. */
  private static final class Paper {
    /** 0: the day is shut, as an open one's lowest price is 1 at least. */
    final int[] low = new int[DAYS];
    final int[] high = new int[DAYS];
    final int[] sold = new int[DAYS];
    final int[] tradeDay = new int[TRADES];
    final int[] price = new int[TRADES];
    final int[] amount = new int[TRADES];
    final int[] tradeFloor = new int[TRADES];
    int trades;
    final int[] handDays = new int[HANDS];
    final int[] handFloors = new int[HANDS];
    int hands;
    /** Worked anew for each question: by TRADE whether it is wrong and the HANDS that could have printed it. */
    final int[] couldPrint = new int[TRADES];
    final boolean[] isWrong = new boolean[TRADES];

    int addTrade(int day, int itsPrice, int itsAmount, int floor) {
      tradeDay[trades] = day;
      price[trades] = itsPrice;
      amount[trades] = itsAmount;
      tradeFloor[trades] = floor;
      trades++;
      return trades - 1;
    }

    int addHand(int days, int floors) {
      handDays[hands] = days;
      handFloors[hands] = floors;
      hands++;
      return hands - 1;
    }

    int wrongOf(int trade) {
      int day = tradeDay[trade];
      if (low[day] == 0) return 1;
      int bits = price[trade] < low[day] || price[trade] > high[day] ? 2 : 0;
      long told = 0;
      for (int t = 0; t <= trade; t++) {
        if (tradeDay[t] == day) told += amount[t];
      }
      return told > sold[day] ? bits | 4 : bits;
    }

    int firstWrong() {
      for (int t = 0; t < trades; t++) {
        if (wrongOf(t) != 0) return t;
      }
      return NONE;
    }

    int wrongOnes() {
      int ones = 0;
      for (int t = 0; t < trades; t++) {
        if (wrongOf(t) != 0) ones++;
      }
      return ones;
    }

    /** WHOSE: 0 the size of a least set, 1 how many, 2 who is in all of them, 3 who is in some. */
    int leastSets(int what) {
      lookWhoCould();
      int size = NO_SUCH, sets = 0, inAll = 0, inSome = 0;
      for (int set = 0; set < 1 << hands; set++) {
        if (!printsAll(set)) continue;
        int its = Integer.bitCount(set);
        if (sets == 0 || its < size) {
          size = its;
          sets = 0;
          inAll = set;
          inSome = 0;
        }
        if (its == size) {
          sets++;
          inAll &= set;
          inSome |= set;
        }
      }
      switch (what) {
        case 0: return size;
        case 1: return sets;
        case 2: return inAll;
        default: return inSome;
      }
    }

    private void lookWhoCould() {
      for (int t = 0; t < trades; t++) {
        isWrong[t] = wrongOf(t) != 0;
        couldPrint[t] = 0;
        for (int h = 0; h < hands; h++) {
          boolean wasThere = (handDays[h] >> tradeDay[t] & 1) == 1 && (handFloors[h] >> tradeFloor[t] & 1) == 1;
          if (wasThere) couldPrint[t] |= 1 << h;
        }
      }
    }

    private boolean printsAll(int set) {
      for (int t = 0; t < trades; t++) {
        if (isWrong[t] && (couldPrint[t] & set) == 0) return false;
      }
      return true;
    }

    long digestedTrades(long before) {
      long h = before;
      for (int t = 0; t < trades; t++) {
        h = 31 * h + tradeDay[t];
        h = 31 * h + price[t];
        h = 31 * h + amount[t];
        h = 31 * h + tradeFloor[t];
      }
      return h;
    }

    long digestedHands(long before) {
      long h = before;
      for (int i = 0; i < hands; i++) {
        h = 31 * h + handDays[i];
        h = 31 * h + handFloors[i];
      }
      return h;
    }

    void copyFrom(Paper other) {
      System.arraycopy(other.low, 0, low, 0, DAYS);
      System.arraycopy(other.high, 0, high, 0, DAYS);
      System.arraycopy(other.sold, 0, sold, 0, DAYS);
      System.arraycopy(other.tradeDay, 0, tradeDay, 0, TRADES);
      System.arraycopy(other.price, 0, price, 0, TRADES);
      System.arraycopy(other.amount, 0, amount, 0, TRADES);
      System.arraycopy(other.tradeFloor, 0, tradeFloor, 0, TRADES);
      trades = other.trades;
      System.arraycopy(other.handDays, 0, handDays, 0, HANDS);
      System.arraycopy(other.handFloors, 0, handFloors, 0, HANDS);
      hands = other.hands;
    }
  }

  /** What each is owed, what can be taken back, and the SUITS. */
  private static final class Claims {
    final int[] indexOf = new int[MONTHS];
    final int[] giver = new int[GIFTS];
    final int[] taker = new int[GIFTS];
    final int[] giftMonth = new int[GIFTS];
    final int[] giftSum = new int[GIFTS];
    int gifts;
    int yearsOfGood = MOST_YEARS;
    int yearsOfBad = MOST_YEARS;
    final int[] brings = new int[SUITS];
    final int[] cost = new int[SUITS];
    final int[] suitMonths = new int[SUITS];
    int suits;
    /** Worked anew for each question: what is with each PERSON as GIFTS lead it on. */
    final long[] with = new long[PERSONS];

    Claims() {
      Arrays.fill(indexOf, 100);
    }

    long countOf(Ledger ledger, int person, int which) {
      switch (which) {
        case 0: return ledger.netOf(person, MONTHS);
        case 1: return ledger.shownTo[person];
        default: return indexedOf(ledger, person);
      }
    }

    private long indexedOf(Ledger ledger, int person) {
      long all = 0;
      for (int r = 0; r < ledger.rows; r++) {
        if (ledger.rowPerson[r] != person) continue;
        all += cut((long) ledger.rowSum[r] * indexOf[ledger.now], indexOf[ledger.rowMonth[r]]);
      }
      return Math.max(0, all);
    }

    long countOfAll(Ledger ledger, int which) {
      long all = 0;
      for (int p = 0; p < ledger.persons; p++) all += countOf(ledger, p, which);
      return all;
    }

    long dealtTo(Ledger ledger, int person, int which, int sum) {
      long his = countOf(ledger, person, which);
      return Math.min(his, cut(sum * his, countOfAll(ledger, which)));
    }

    int addGift(int from, int to, int month, int sum) {
      giver[gifts] = from;
      taker[gifts] = to;
      giftMonth[gifts] = month;
      giftSum[gifts] = sum;
      gifts++;
      return gifts;
    }

    long toTakeFrom(Ledger ledger, int person) {
      boolean good = ledger.faith[person] == 1;
      long counted = ledger.outOf(person, ledger.now - (good ? yearsOfGood : yearsOfBad));
      if (!good) return counted;
      long gained = ledger.outOf(person, 0) - ledger.inOf(person);
      return Math.min(counted, Math.max(0, gained));
    }

    long takenFrom(Ledger ledger, int person) {
      for (int p = 0; p < ledger.persons; p++) with[p] = toTakeFrom(ledger, p);
      for (int month = 0; month < MONTHS; month++) {
        for (int g = 0; g < gifts; g++) {
          if (giftMonth[g] == month) leadOn(g);
        }
      }
      return with[person];
    }

    private void leadOn(int gift) {
      long goesOn = Math.min(with[giver[gift]], giftSum[gift]);
      with[giver[gift]] -= goesOn;
      with[taker[gift]] += goesOn;
    }

    int addSuit(int itBrings, int itsCost, int itsMonths) {
      brings[suits] = itBrings;
      cost[suits] = itsCost;
      suitMonths[suits] = itsMonths;
      suits++;
      return suits - 1;
    }

    int bestSet(int months) {
      int best = 0;
      for (int set = 1; set < 1 << suits; set++) {
        if (monthsOf(set) > months || gainOf(set) < gainOf(best)) continue;
        if (gainOf(set) > gainOf(best) || monthsOf(set) < monthsOf(best)) best = set;
      }
      return best;
    }

    int gainOf(int set) {
      int gain = 0;
      for (int s = 0; s < suits; s++) {
        if ((set >> s & 1) == 1) gain += brings[s] - cost[s];
      }
      return gain;
    }

    private int monthsOf(int set) {
      int months = 0;
      for (int s = 0; s < suits; s++) {
        if ((set >> s & 1) == 1) months += suitMonths[s];
      }
      return months;
    }

    long digestedGifts(long before) {
      long h = before;
      for (int g = 0; g < gifts; g++) {
        h = 31 * h + giver[g];
        h = 31 * h + taker[g];
        h = 31 * h + giftMonth[g];
        h = 31 * h + giftSum[g];
      }
      return h;
    }

    long digestedSuits(long before) {
      long h = before;
      for (int s = 0; s < suits; s++) {
        h = 31 * h + brings[s];
        h = 31 * h + cost[s];
        h = 31 * h + suitMonths[s];
      }
      return h;
    }

    void copyFrom(Claims other) {
      System.arraycopy(other.indexOf, 0, indexOf, 0, MONTHS);
      System.arraycopy(other.giver, 0, giver, 0, GIFTS);
      System.arraycopy(other.taker, 0, taker, 0, GIFTS);
      System.arraycopy(other.giftMonth, 0, giftMonth, 0, GIFTS);
      System.arraycopy(other.giftSum, 0, giftSum, 0, GIFTS);
      gifts = other.gifts;
      yearsOfGood = other.yearsOfGood;
      yearsOfBad = other.yearsOfBad;
      System.arraycopy(other.brings, 0, brings, 0, SUITS);
      System.arraycopy(other.cost, 0, cost, 0, SUITS);
      System.arraycopy(other.suitMonths, 0, suitMonths, 0, SUITS);
      suits = other.suits;
    }
  }

  /** HOUSES: own COIN, and DUES of house f to house t at f * HOUSES + t. */
  private static final class Houses {
    final int[] own = new int[HOUSES];
    final int[] owed = new int[HOUSES * HOUSES];
    boolean isStruck;

    /** COIN that a HOUSE can pay with: less what its PERSONS lost, if STRUCK. */
    long coinsOf(int house, Ledger ledger) {
      if (!isStruck) return own[house];
      long gone = 0;
      for (int p = 0; p < ledger.persons; p++) {
        if (ledger.house[p] == house) gone += ledger.netOf(p, MONTHS);
      }
      return Math.max(0, own[house] - gone);
    }

    long digested(long before) {
      long h = before;
      for (int f = 0; f < HOUSES; f++) {
        h = 31 * h + own[f];
        for (int t = 0; t < HOUSES; t++) h = 31 * h + owed[f * HOUSES + t];
      }
      return h;
    }

    void copyFrom(Houses other) {
      System.arraycopy(other.own, 0, own, 0, HOUSES);
      System.arraycopy(other.owed, 0, owed, 0, HOUSES * HOUSES);
      isStruck = other.isStruck;
    }
  }

  /** LETTERS and the text of RULES. */
  private static final class Letters {
    final int[] office = new int[LETTERS];
    final int[] asked = new int[LETTERS];
    final int[] read = new int[LETTERS];
    int size;
    final int[] rules = new int[CHARACTERS];
    int length;

    int addLetter(int itsOffice, int askedIn, int readIn) {
      office[size] = itsOffice;
      asked[size] = askedIn;
      read[size] = readIn;
      size++;
      return size - 1;
    }

    int askedBy(int month) {
      int n = 0;
      for (int i = 0; i < size; i++) {
        if (asked[i] <= month) n++;
      }
      return n;
    }

    /** One is read no earlier than asked, so all that are read by then are asked by then. */
    int readBy(int month) {
      int n = 0;
      for (int i = 0; i < size; i++) {
        if (read[i] != NONE && read[i] <= month) n++;
      }
      return n;
    }

    long digestedLetters(long before) {
      long h = before;
      for (int i = 0; i < size; i++) {
        h = 31 * h + office[i];
        h = 31 * h + asked[i];
        h = 31 * h + read[i];
      }
      return h;
    }

    long digestedRules(long before) {
      long h = before;
      for (int i = 0; i < length; i++) h = 31 * h + rules[i];
      return h;
    }

    void copyFrom(Letters other) {
      System.arraycopy(other.office, 0, office, 0, LETTERS);
      System.arraycopy(other.asked, 0, asked, 0, LETTERS);
      System.arraycopy(other.read, 0, read, 0, LETTERS);
      size = other.size;
      System.arraycopy(other.rules, 0, rules, 0, CHARACTERS);
      length = other.length;
    }
  }

  /** A RECORD: ROWS as they were, with two seals. */
  private static final class SealedRecord {
    private static final int H_START = 5, H_TIMES = 31, G_START = 7, G_TIMES = 33;

    final int[] person = new int[ROWS];
    final int[] month = new int[ROWS];
    final int[] sum = new int[ROWS];
    final boolean[] fits = new boolean[ROWS];
    int rows;
    int sealH = H_START;
    int sealG = G_START;

    void copyRows(Ledger ledger) {
      rows = ledger.rows;
      System.arraycopy(ledger.rowPerson, 0, person, 0, ROWS);
      System.arraycopy(ledger.rowMonth, 0, month, 0, ROWS);
      System.arraycopy(ledger.rowSum, 0, sum, 0, ROWS);
      sealH = sealed(H_START, H_TIMES);
      sealG = sealed(G_START, G_TIMES);
    }

    private int sealed(int start, int times) {
      int seal = start;
      for (int r = 0; r < rows; r++) {
        seal = times * seal + person[r];
        seal = times * seal + month[r];
        seal = times * seal + sum[r];
      }
      return seal;
    }

    int findAltered(int what) {
      int offH = sealH - sealed(H_START, H_TIMES);
      int offG = sealG - sealed(G_START, G_TIMES);
      if (offH == 0 && offG == 0) return NONE;
      int found = lookWhichFit(offH, offG);
      if (what == NONE) return found;
      int i = 0;
      for (int r = 0; r < rows; r++) {
        if (!fits[r]) continue;
        if (i == what) return r;
        i++;
      }
      return NO_SUCH;
    }

    /**
     * A sum that is d more moves one seal by d * hs and the other by d * gs. Both factors are odd, so there is one d
     * for each seal alone, and it is one d for both just where offH * gs and offG * hs are alike.
     */
    private int lookWhichFit(int offH, int offG) {
      int hs = 1, gs = 1, found = 0;
      for (int r = rows - 1; r >= 0; r--) {
        fits[r] = offH * gs == offG * hs;
        if (fits[r]) found++;
        hs *= H_TIMES * H_TIMES * H_TIMES;
        gs *= G_TIMES * G_TIMES * G_TIMES;
      }
      return found;
    }

    long digested(long before) {
      long h = before;
      for (int r = 0; r < rows; r++) h = 31 * h + sum[r];
      return h;
    }
  }

  /** THE FRACTION, in lowest terms. */
  private static final class Fraction {
    private static final int MOST_STEPS = 200;

    long above = 0;
    long below = 1;

    void become(long itsAbove, long itsBelow) {
      long divisor = commonDivisor(itsAbove, itsBelow);
      above = cut(itsAbove, divisor);
      below = cut(itsBelow, divisor);
    }

    private static long commonDivisor(long x, long y) {
      long a = x, b = y;
      for (int i = 0; i < MOST_STEPS && b != 0; i++) {
        long rest = a % b;
        a = b;
        b = rest;
      }
      return a;
    }
  }

  /** TIDE: its level, above by below, and what it pays. */
  private static final class Tide {
    private final long[] putIn = new long[PERSONS];
    private final long[] drawn = new long[PERSONS];
    long above = 1;
    long below = 1;

    /**
     * The level sinks from 1. At each step it is the one by which those whom it still reaches get the sum together;
     * as it sinks some fall dry, and it is lowered again for the others: after PERSONS steps none is left to fall dry.
     */
    void rise(Ledger ledger, int sum) {
      lookAt(ledger);
      above = 1;
      below = 1;
      for (int step = 0; step <= PERSONS; step++) {
        long in = 0, out = 0;
        for (int p = 0; p < ledger.persons; p++) {
          if (above * putIn[p] <= drawn[p] * below) continue;
          in += putIn[p];
          out += drawn[p];
        }
        if (in == 0 || above * in - below * out <= sum * below) return;
        above = sum + out;
        below = in;
      }
    }

    private void lookAt(Ledger ledger) {
      for (int p = 0; p < ledger.persons; p++) {
        putIn[p] = ledger.inOf(p);
        drawn[p] = ledger.outOf(p, 0);
      }
    }

    long paidTo(int person) {
      return Math.max(0, cut(above * putIn[person] - below * drawn[person], below));
    }
  }

  /** PAYMENTS of HOUSES that agree, worked in rounds from nothing or from all DUES paid. */
  private static final class Clearing {
    /** Each round that changes something moves a payment by 1 at least, all one way, and all DUES are 560000. */
    private static final int MOST_ROUNDS = 1000000;

    private final boolean fromAll;
    private final long[] coins = new long[HOUSES];
    private final int[] owed = new int[HOUSES * HOUSES];
    private final long[] dues = new long[HOUSES];
    private final long[] gets = new long[HOUSES];
    private final long[] next = new long[HOUSES];
    private final long[] share = new long[HOUSES * HOUSES];
    final long[] pay = new long[HOUSES];
    int changes;

    Clearing(boolean isFromAll) {
      fromAll = isFromAll;
    }

    /** Rounds may be many, so they are worked only for other COINS or DUES than the last; at first, with none, all is 0. */
    void settle(World world) {
      if (!learn(world)) return;
      begin();
      changes = 0;
      for (int round = 0; round < MOST_ROUNDS && changesInRound(); round++) changes++;
    }

    private boolean learn(World world) {
      boolean isOther = false;
      for (int h = 0; h < HOUSES; h++) {
        long its = world.houses.coinsOf(h, world.ledger);
        if (coins[h] != its) isOther = true;
        coins[h] = its;
      }
      for (int i = 0; i < HOUSES * HOUSES; i++) {
        if (owed[i] != world.houses.owed[i]) isOther = true;
        owed[i] = world.houses.owed[i];
      }
      return isOther;
    }

    private void begin() {
      Arrays.fill(gets, 0);
      Arrays.fill(share, 0);
      for (int h = 0; h < HOUSES; h++) {
        dues[h] = 0;
        for (int t = 0; t < HOUSES; t++) dues[h] += owed[h * HOUSES + t];
        pay[h] = fromAll ? dues[h] : 0;
        handOn(h);
      }
    }

    private boolean changesInRound() {
      boolean changed = false;
      for (int h = 0; h < HOUSES; h++) next[h] = Math.min(dues[h], coins[h] + gets[h]);
      for (int h = 0; h < HOUSES; h++) {
        if (next[h] == pay[h]) continue;
        changed = true;
        pay[h] = next[h];
        handOn(h);
      }
      return changed;
    }

    /** What the others get of a HOUSE is no longer what it was, but what it pays now. */
    private void handOn(int house) {
      for (int t = 0; t < HOUSES; t++) {
        int i = house * HOUSES + t;
        long its = cut(pay[house] * owed[i], dues[house]);
        gets[t] += its - share[i];
        share[i] = its;
      }
    }

    int fallen() {
      int bits = 0;
      for (int h = 0; h < HOUSES; h++) {
        if (pay[h] < dues[h]) bits |= 1 << h;
      }
      return bits;
    }
  }

  /** Reads RULES: finds their FAULT, or works their value with what it has learned of a month. */
  private static final class RuleReader {
    private static final String NAMES = "csioqrm";
    private static final int MOST_DIGITS = 6, MOST_OPEN = 8;
    private static final int MISPLACED = 1, TOO_LONG = 2, TOO_DEEP = 3;

    private final long[] named = new long[7];
    private final int[] text = new int[CHARACTERS];
    private int length;
    private int place;
    private int open;
    private int found;

    /** The text is taken here, so that its value is worked for each month without a look at what else LETTERS hold. */
    int faultOf(Letters letters) {
      System.arraycopy(letters.rules, 0, text, 0, CHARACTERS);
      length = letters.length;
      valueRead();
      return found;
    }

    void learn(Ledger ledger, Letters letters, int month) {
      named[0] = ledger.coinsAtEnd[month];
      named[1] = ledger.shownAtEnd[month];
      named[2] = ledger.inOfAll(month, month);
      named[3] = ledger.outOfAll(month, month);
      named[4] = letters.askedBy(month);
      named[5] = letters.readBy(month);
      named[6] = month;
    }

    long valueRead() {
      place = 0;
      open = 0;
      found = NONE;
      long v = anyHolds(0);
      if (next() != NONE) refuse(MISPLACED);
      return v;
    }

    private long anyHolds(int depth) {
      long v = allHold(depth);
      for (int i = 0; i < CHARACTERS && takes('|'); i++) {
        long w = allHold(depth);
        v = truth(v != 0 || w != 0);
      }
      return v;
    }

    private long allHold(int depth) {
      long v = held(depth);
      for (int i = 0; i < CHARACTERS && takes('&'); i++) {
        long w = held(depth);
        v = truth(v != 0 && w != 0);
      }
      return v;
    }

    private long held(int depth) {
      long v = added(depth);
      if (takes('<')) return truth(v < added(depth));
      if (takes('>')) return truth(v > added(depth));
      if (takes('=')) return truth(v == added(depth));
      return v;
    }

    private long added(int depth) {
      long v = multiplied(depth);
      for (int i = 0; i < CHARACTERS; i++) {
        if (takes('+')) v += multiplied(depth);
        else if (takes('-')) v -= multiplied(depth);
        else return v;
      }
      return v;
    }

    private long multiplied(int depth) {
      long v = unit(depth);
      for (int i = 0; i < CHARACTERS; i++) {
        if (takes('*')) v *= unit(depth);
        else if (takes('/')) v = cut(v, unit(depth));
        else return v;
      }
      return v;
    }

    /** Each level has taken a character, so no text is deeper than it is long. */
    private long unit(int depth) {
      int c = next();
      if (c == NONE || depth > CHARACTERS) return refuse(MISPLACED);
      if (isDigit(c)) return number();
      if (c == '(') return inBrackets(depth);
      if (takes('!')) return truth(unit(depth + 1) == 0);
      if (takes('-')) return -unit(depth + 1);
      int name = NAMES.indexOf((char) c);
      if (name < 0 || name >= named.length) return refuse(MISPLACED);
      place++;
      return named[name];
    }

    private long inBrackets(int depth) {
      if (open >= MOST_OPEN) return refuse(TOO_DEEP);
      open++;
      place++;
      long v = anyHolds(depth + 1);
      if (!takes(')')) refuse(MISPLACED);
      open--;
      return v;
    }

    private long number() {
      int end = place;
      while (end < length && isDigit(text[end])) end++;
      if (end - place > MOST_DIGITS) return refuse(TOO_LONG);
      long v = 0;
      for (; place < end; place++) v = 10 * v + text[place] - '0';
      return v;
    }

    /** The character that comes, behind blanks; NONE at the end. */
    private int next() {
      while (place < length && text[place] == ' ') place++;
      return place < length ? text[place] : NONE;
    }

    private boolean takes(char sign) {
      if (found != NONE || next() != sign) return false;
      place++;
      return true;
    }

    private long refuse(int kind) {
      if (found == NONE) found = 10 * place + kind;
      return 0;
    }

    private static boolean isDigit(int c) {
      return '0' <= c && c <= '9';
    }

    private static long truth(boolean is) {
      return is ? 1 : 0;
    }
  }
}
