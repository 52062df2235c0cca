import java.math.BigInteger;
import java.util.ArrayList;
import java.util.Arrays;
import java.util.Comparator;
import java.util.List;

/** The document written a second time, with the library and by other ways than the class, to hold the class against. */
final class Model {
  record Row(int person, int month, int sum) {}
  record Trade(int day, int price, int amount, int floor) {}
  record Gift(int from, int to, int month, int sum) {}
  record Letter(int office, int asked, int read) {}
  record Hand(int days, int floors) {}
  record Suit(int brings, int cost, int months) {}
  record Level(BigInteger above, BigInteger below) {
    int compareTo(Level other) {
      return above.multiply(other.below).compareTo(other.above.multiply(below));
    }
  }

  /** All that an image keeps; copied whole. */
  static final class State {
    int now, fee, rate = 10, fell = -1, good = 60, bad = 60;
    long coin, fees;
    List<int[]> persons = new ArrayList<>();
    List<Long> shown = new ArrayList<>();
    List<Row> rows = new ArrayList<>();
    List<Long> coinAt = new ArrayList<>(), shownAt = new ArrayList<>();
    int[][] spans = new int[12][4];
    int[][] days = new int[30][];
    List<Trade> trades = new ArrayList<>();
    int[] index = new int[60];
    List<Gift> gifts = new ArrayList<>();
    int[] houseCoin = new int[8];
    int[][] dues = new int[8][8];
    boolean struck;
    List<Letter> letters = new ArrayList<>();
    String rules = "";
    List<Hand> hands = new ArrayList<>();
    List<Suit> suits = new ArrayList<>();

    State() {
      Arrays.fill(index, 100);
    }

    State copy() {
      State s = new State();
      s.now = now; s.fee = fee; s.rate = rate; s.fell = fell; s.good = good; s.bad = bad; s.coin = coin; s.fees = fees;
      s.persons.addAll(persons); s.shown.addAll(shown); s.rows.addAll(rows);
      s.coinAt.addAll(coinAt); s.shownAt.addAll(shownAt);
      for (int i = 0; i < 12; i++) s.spans[i] = spans[i].clone();
      for (int i = 0; i < 30; i++) s.days[i] = days[i];
      s.trades.addAll(trades);
      s.index = index.clone();
      s.gifts.addAll(gifts);
      s.houseCoin = houseCoin.clone();
      for (int i = 0; i < 8; i++) s.dues[i] = dues[i].clone();
      s.struck = struck;
      s.letters.addAll(letters); s.rules = rules; s.hands.addAll(hands); s.suits.addAll(suits);
      return s;
    }
  }

  private State s = new State();
  private final State[] images = new State[2];
  private List<Row> record = new ArrayList<>();
  private int[] seals = {5, 7};
  private BigInteger above = BigInteger.ZERO, below = BigInteger.ONE;
  private long[] agreed = new long[8];
  private int rounds;

  private static boolean out(long v, long low, long high) {
    return v < low || v > high;
  }

  private boolean nobody(int p) {
    return p < 0 || p >= s.persons.size();
  }

  int person(int house, boolean good) {
    if (out(house, -1, 7)) return -2;
    if (s.persons.size() == 12) return -4;
    s.persons.add(new int[] {house, good ? 1 : 0});
    s.shown.add(0L);
    return s.persons.size() - 1;
  }

  int terms(int fee, int rate) {
    if (out(fee, 0, 20) || out(rate, 0, 50)) return -2;
    s.fee = fee;
    s.rate = rate;
    return 1;
  }

  int puts(int p, int sum) {
    if (nobody(p) || out(sum, 1, 1000000)) return -2;
    if (s.fell >= 0) return -3;
    if (s.rows.size() == 100) return -4;
    s.rows.add(new Row(p, s.now, sum));
    s.coin += sum;
    s.shown.set(p, s.shown.get(p) + sum);
    return s.rows.size() - 1;
  }

  int draws(int p, int sum) {
    if (nobody(p) || out(sum, 1, 1000000)) return -2;
    if (s.fell >= 0 || sum > s.shown.get(p)) return -3;
    if (s.rows.size() == 100) return -4;
    if (s.coin < sum) {
      s.fell = s.now;
      return 0;
    }
    s.rows.add(new Row(p, s.now, -sum));
    s.coin -= sum;
    s.shown.set(p, s.shown.get(p) - sum);
    return 1;
  }

  int months(int n) {
    if (out(n, 1, 12) || s.now + n > 59) return -2;
    if (s.fell >= 0) return -3;
    for (int i = 0; i < n; i++) {
      long gone = (s.coin * s.fee - s.coin * s.fee % 1000) / 1000;
      s.coin -= gone;
      s.fees += gone;
      long all = 0;
      for (int p = 0; p < s.persons.size(); p++) {
        s.shown.set(p, s.shown.get(p) + s.shown.get(p) * s.rate / 1000);
        all += s.shown.get(p);
      }
      s.coinAt.add(s.coin);
      s.shownAt.add(all);
      s.now++;
    }
    return s.now;
  }

  long shown(int p) {
    return nobody(p) ? -1 : s.shown.get(p);
  }

  long account(int what) {
    return switch (what) {
      case 0 -> s.coin;
      case 1 -> s.shown.stream().mapToLong(v -> v).sum();
      case 2 -> s.fees;
      case 3 -> s.fell;
      case 4 -> s.rows.stream().filter(r -> r.sum > 0).mapToLong(r -> r.sum).sum();
      case 5 -> s.rows.stream().filter(r -> r.sum < 0).mapToLong(r -> -r.sum).sum();
      default -> -2;
    };
  }

  int spans(int i, int in0, int in1, int out0, int out1) {
    if (out(i, 0, 11) || out(in0, 0, 1000000) || out(in1, 0, 1000000) || out(out0, 0, 1000000) || out(out1, 0, 1000000)) return -2;
    if (in0 > in1 || out0 > out1) return -2;
    s.spans[i] = new int[] {in0, in1, out0, out1};
    return 1;
  }

  int falls(int what) {
    if (out(what, 0, 1)) return -2;
    for (int i = 0; i < 12; i++) {
      long left = s.coin;
      for (int j = 0; j <= i; j++) left += what == 0 ? s.spans[j][0] - s.spans[j][3] : s.spans[j][1] - s.spans[j][2];
      if (left < 0) return i;
    }
    return -1;
  }

  int day(int day, int low, int high, int sold) {
    if (out(day, 0, 29) || out(low, 1, 10000) || out(high, 1, 10000) || low > high || out(sold, 0, 100000)) return -2;
    s.days[day] = new int[] {low, high, sold};
    return 1;
  }

  int trade(int day, int price, int amount, int floor) {
    if (out(day, 0, 29) || out(price, 1, 10000) || out(amount, 1, 100000) || out(floor, 0, 3)) return -2;
    if (s.trades.size() == 40) return -4;
    s.trades.add(new Trade(day, price, amount, floor));
    return s.trades.size() - 1;
  }

  int wrong(int t) {
    if (out(t, 0, s.trades.size() - 1)) return -2;
    Trade it = s.trades.get(t);
    int[] d = s.days[it.day];
    if (d == null) return 1;
    long told = s.trades.subList(0, t + 1).stream().filter(x -> x.day == it.day).mapToLong(x -> x.amount).sum();
    return (out(it.price, d[0], d[1]) ? 2 : 0) + (told > d[2] ? 4 : 0);
  }

  private List<Integer> wrongOnes() {
    List<Integer> all = new ArrayList<>();
    for (int t = 0; t < s.trades.size(); t++) if (wrong(t) != 0) all.add(t);
    return all;
  }

  int first() {
    return wrongOnes().isEmpty() ? -1 : wrongOnes().get(0);
  }

  /** How likely: month by month, how many ways lead to so many up. */
  private static BigInteger[] likely(int n, int k, int a, int b) {
    BigInteger[] ways = new BigInteger[n + 2];
    Arrays.fill(ways, BigInteger.ZERO);
    ways[0] = BigInteger.ONE;
    for (int m = 0; m < n; m++) {
      for (int up = m + 1; up >= 0; up--) {
        BigInteger stays = ways[up].multiply(BigInteger.valueOf(b - a));
        ways[up] = up == 0 ? stays : stays.add(ways[up - 1].multiply(BigInteger.valueOf(a)));
      }
    }
    BigInteger sum = BigInteger.ZERO;
    for (int up = k; up <= n; up++) sum = sum.add(ways[up]);
    return new BigInteger[] {sum, BigInteger.valueOf(b).pow(n)};
  }

  private static boolean notEven(int n, int k, int a, int b) {
    return out(n, 1, 18) || out(k, 0, n) || a <= 0 || a >= b || b > 10;
  }

  private void setFraction(BigInteger x, BigInteger y) {
    BigInteger g = x.gcd(y);
    above = x.divide(g);
    below = y.divide(g);
  }

  int even(int n, int k, int a, int b) {
    if (notEven(n, k, a, b)) return -2;
    BigInteger[] f = likely(n, k, a, b);
    setFraction(f[0], f[1]);
    return 1;
  }

  int funds(int n, int k, int a, int b, int w) {
    if (notEven(n, k, a, b) || out(w, 1, 1000000)) return -2;
    BigInteger[] f = likely(n, k, a, b);
    return f[0].multiply(BigInteger.valueOf(w)).divide(f[1]).intValueExact();
  }

  long part(int what) {
    return what == 0 ? above.longValueExact() : what == 1 ? below.longValueExact() : -1;
  }

  int index(int month, int v) {
    if (out(month, 0, 59) || out(v, 1, 1000)) return -2;
    int was = s.index[month];
    s.index[month] = v;
    return was;
  }

  private long in(int p) {
    return s.rows.stream().filter(r -> r.person == p && r.sum > 0).mapToLong(r -> r.sum).sum();
  }

  private long drawn(int p, int since) {
    return s.rows.stream().filter(r -> r.person == p && r.sum < 0 && r.month >= since).mapToLong(r -> -r.sum).sum();
  }

  private long of(int p, int which) {
    if (which == 0) return Math.max(0, in(p) - drawn(p, 0));
    if (which == 1) return s.shown.get(p);
    long all = 0;
    for (Row r : s.rows) if (r.person == p) {
      long worth = (long) Math.abs(r.sum) * s.index[s.now] / s.index[r.month];
      all += r.sum > 0 ? worth : -worth;
    }
    return Math.max(0, all);
  }

  private long ofAll(int which) {
    long all = 0;
    for (int p = 0; p < s.persons.size(); p++) all += of(p, which);
    return all;
  }

  long count(int p, int which) {
    if (p != -1 && nobody(p) || out(which, 0, 2)) return -1;
    return p == -1 ? ofAll(which) : of(p, which);
  }

  private long byPart(int p, int which, int sum) {
    if (ofAll(which) == 0) return 0;
    BigInteger his = BigInteger.valueOf(of(p, which));
    long gets = his.multiply(BigInteger.valueOf(sum)).divide(BigInteger.valueOf(ofAll(which))).longValueExact();
    return Math.min(gets, of(p, which));
  }

  /** The level: by the heights at which each begins to be reached, lowest first, the part between two that fits. */
  private Level level(int sum) {
    List<long[]> all = new ArrayList<>();
    for (int p = 0; p < s.persons.size(); p++) if (in(p) > 0) all.add(new long[] {in(p), drawn(p, 0)});
    Comparator<long[]> byHeight = (x, y) -> Long.compare(x[1] * y[0], y[1] * x[0]);
    all.sort(byHeight);
    Level one = new Level(BigInteger.ONE, BigInteger.ONE);
    BigInteger in = BigInteger.ZERO, out = BigInteger.ZERO;
    for (int i = 0; i < all.size(); i++) {
      in = in.add(BigInteger.valueOf(all.get(i)[0]));
      out = out.add(BigInteger.valueOf(all.get(i)[1]));
      Level here = new Level(out.add(BigInteger.valueOf(sum)), in);
      Level next = i + 1 < all.size() ? new Level(BigInteger.valueOf(all.get(i + 1)[1]), BigInteger.valueOf(all.get(i + 1)[0])) : null;
      if (next == null || here.compareTo(next) <= 0) return here.compareTo(one) > 0 ? one : here;
    }
    return one;
  }

  private long byTide(int p, int sum) {
    Level l = level(sum);
    BigInteger gets = l.above.multiply(BigInteger.valueOf(in(p))).subtract(l.below.multiply(BigInteger.valueOf(drawn(p, 0))));
    return gets.signum() <= 0 ? 0 : gets.divide(l.below).longValueExact();
  }

  long dealt(int p, int which, int sum) {
    if (nobody(p) || out(which, 0, 3) || out(sum, 0, 10000000)) return -1;
    return which == 3 ? byTide(p, sum) : byPart(p, which, sum);
  }

  int tide(int sum) {
    if (out(sum, 0, 10000000)) return -2;
    Level l = level(sum);
    setFraction(l.above, l.below);
    return 1;
  }

  int moved(int sum, int which) {
    if (out(sum, 0, 10000000) || out(which, 0, 1)) return -2;
    int bits = 0;
    for (int p = 0; p < s.persons.size(); p++) {
      int way = Long.compare(byTide(p, sum), byPart(p, 0, sum));
      if (way == (which == 0 ? 1 : -1)) bits += 1 << p;
    }
    return bits;
  }

  int gift(int from, int to, int month, int sum) {
    if (nobody(from) || nobody(to) || from == to || out(month, 0, 59) || out(sum, 1, 1000000)) return -2;
    if (s.gifts.size() == 30) return -4;
    s.gifts.add(new Gift(from, to, month, sum));
    return s.gifts.size();
  }

  int years(int good, int bad) {
    if (out(good, 0, 60) || out(bad, 0, 60)) return -2;
    s.good = good;
    s.bad = bad;
    return 1;
  }

  private long toTake(int p) {
    if (s.persons.get(p)[1] == 0) return drawn(p, s.now - s.bad);
    return Math.min(drawn(p, s.now - s.good), Math.max(0, drawn(p, 0) - in(p)));
  }

  long take(int p, int which) {
    if (nobody(p) || out(which, 0, 1)) return -1;
    if (which == 0) return toTake(p);
    long[] with = new long[12];
    for (int i = 0; i < s.persons.size(); i++) with[i] = toTake(i);
    List<Gift> led = new ArrayList<>(s.gifts);
    led.sort(Comparator.comparingInt(Gift::month));
    for (Gift g : led) {
      long part = with[g.from] < g.sum ? with[g.from] : g.sum;
      with[g.from] -= part;
      with[g.to] += part;
    }
    return with[p];
  }

  int coin(int house, int v) {
    if (out(house, 0, 7) || out(v, 0, 1000000)) return -2;
    int was = s.houseCoin[house];
    s.houseCoin[house] = v;
    return was;
  }

  int due(int from, int to, int v) {
    if (out(from, 0, 7) || out(to, 0, 7) || from == to || out(v, 0, 10000)) return -2;
    int was = s.dues[from][to];
    s.dues[from][to] = v;
    return was;
  }

  int struck(boolean is) {
    if (s.struck == is) return -3;
    s.struck = is;
    return 1;
  }

  private void agree(int which) {
    long[] coins = new long[8], all = new long[8];
    for (int h = 0; h < 8; h++) {
      coins[h] = s.houseCoin[h];
      for (int p = 0; s.struck && p < s.persons.size(); p++) if (s.persons.get(p)[0] == h) coins[h] -= of(p, 0);
      if (coins[h] < 0) coins[h] = 0;
      for (int t = 0; t < 8; t++) all[h] += s.dues[h][t];
    }
    agreed = which == 0 ? new long[8] : all.clone();
    rounds = 0;
    while (true) {
      long[] then = new long[8];
      for (int h = 0; h < 8; h++) {
        long has = coins[h];
        for (int f = 0; f < 8; f++) if (s.dues[f][h] > 0) has += agreed[f] * s.dues[f][h] / all[f];
        then[h] = has < all[h] ? has : all[h];
      }
      if (Arrays.equals(then, agreed)) return;
      agreed = then;
      rounds++;
    }
  }

  int pays(int house, int which) {
    if (out(house, 0, 7) || out(which, 0, 1)) return -2;
    agree(which);
    return (int) agreed[house];
  }

  int rounds(int which, int what) {
    if (out(which, 0, 1) || out(what, 0, 1)) return -2;
    agree(which);
    if (what == 0) return rounds;
    int bits = 0;
    for (int h = 0; h < 8; h++) if (agreed[h] < Arrays.stream(s.dues[h]).sum()) bits += 1 << h;
    return bits;
  }

  int letter(int office, int asked, int read) {
    if (out(office, 0, 3) || out(asked, 0, 59)) return -2;
    if (read != -1 && (read < asked || read > 59)) return -2;
    if (s.letters.size() == 20) return -4;
    s.letters.add(new Letter(office, asked, read));
    return s.letters.size() - 1;
  }

  int write(int c) {
    if (out(c, 0, 127)) return -2;
    if (s.rules.length() == 40) return -4;
    s.rules += (char) c;
    return s.rules.length();
  }

  int erase() {
    int were = s.rules.length();
    s.rules = "";
    return were;
  }

  /** By what can stand next, a character at a time; no tree. */
  int fault() {
    boolean wantsUnit = true;
    List<Boolean> compared = new ArrayList<>(List.of(false));
    String t = s.rules;
    for (int i = 0; i < t.length(); i++) {
      char c = t.charAt(i);
      int top = compared.size() - 1;
      if (c == ' ') continue;
      if (wantsUnit) {
        if (c >= '0' && c <= '9') {
          int j = i;
          while (j < t.length() && t.charAt(j) >= '0' && t.charAt(j) <= '9') j++;
          if (j - i > 6) return 10 * i + 2;
          i = j - 1;
          wantsUnit = false;
        } else if (c == '(') {
          if (compared.size() == 9) return 10 * i + 3;
          compared.add(false);
        } else if ("csioqrm".indexOf(c) >= 0) {
          wantsUnit = false;
        } else if (c != '!' && c != '-') {
          return 10 * i + 1;
        }
      } else if (c == ')' && top > 0) {
        compared.remove(top);
      } else if (c == '&' || c == '|') {
        compared.set(top, false);
        wantsUnit = true;
      } else if ((c == '<' || c == '>' || c == '=') && !compared.get(top)) {
        compared.set(top, true);
        wantsUnit = true;
      } else if (c == '+' || c == '-' || c == '*' || c == '/') {
        wantsUnit = true;
      } else {
        return 10 * i + 1;
      }
    }
    return wantsUnit || compared.size() > 1 ? 10 * t.length() + 1 : -1;
  }

  private static int rank(char op) {
    return switch (op) {
      case '|' -> 1;
      case '&' -> 2;
      case '<', '>', '=' -> 3;
      case '+', '-' -> 4;
      case '*', '/' -> 5;
      case '!', '~' -> 6;
      default -> 0;
    };
  }

  private static void work(List<Long> values, char op) {
    long b = values.remove(values.size() - 1);
    if (op == '!') { values.add(b == 0 ? 1L : 0L); return; }
    if (op == '~') { values.add(-b); return; }
    long a = values.remove(values.size() - 1);
    values.add(switch (op) {
      case '|' -> a != 0 | b != 0 ? 1L : 0L;
      case '&' -> a != 0 & b != 0 ? 1L : 0L;
      case '<' -> a < b ? 1L : 0L;
      case '>' -> a > b ? 1L : 0L;
      case '=' -> a == b ? 1L : 0L;
      case '+' -> a + b;
      case '-' -> a - b;
      case '*' -> BigInteger.valueOf(a).multiply(BigInteger.valueOf(b)).longValue();
      default -> b == 0 ? 0L : BigInteger.valueOf(a).divide(BigInteger.valueOf(b)).longValue();
    });
  }

  /** By two stacks. */
  private long value(long[] named) {
    List<Long> values = new ArrayList<>();
    List<Character> ops = new ArrayList<>();
    boolean wantsUnit = true;
    String t = s.rules;
    for (int i = 0; i < t.length(); i++) {
      char c = t.charAt(i);
      if (c == ' ') continue;
      if (wantsUnit && (c == '!' || c == '-')) {
        ops.add(c == '-' ? '~' : '!');
      } else if (c == '(') {
        ops.add('(');
      } else if (wantsUnit && c >= '0' && c <= '9') {
        int j = i;
        while (j < t.length() && t.charAt(j) >= '0' && t.charAt(j) <= '9') j++;
        values.add(Long.parseLong(t.substring(i, j)));
        i = j - 1;
        wantsUnit = false;
      } else if (wantsUnit) {
        values.add(named["csioqrm".indexOf(c)]);
        wantsUnit = false;
      } else if (c == ')') {
        while (ops.get(ops.size() - 1) != '(') work(values, ops.remove(ops.size() - 1));
        ops.remove(ops.size() - 1);
      } else {
        while (!ops.isEmpty() && rank(ops.get(ops.size() - 1)) >= rank(c)) work(values, ops.remove(ops.size() - 1));
        ops.add(c);
        wantsUnit = true;
      }
    }
    while (!ops.isEmpty()) work(values, ops.remove(ops.size() - 1));
    return values.get(0);
  }

  long bound() {
    if (fault() != -1) return -3;
    long bits = 0;
    for (int m = 0; m < s.now; m++) {
      int month = m;
      long in = s.rows.stream().filter(r -> r.month == month && r.sum > 0).mapToLong(r -> r.sum).sum();
      long out = s.rows.stream().filter(r -> r.month == month && r.sum < 0).mapToLong(r -> -r.sum).sum();
      long asked = s.letters.stream().filter(l -> l.asked <= month).count();
      long read = s.letters.stream().filter(l -> l.asked <= month && l.read >= 0 && l.read <= month).count();
      long[] named = {s.coinAt.get(m), s.shownAt.get(m), in, out, asked, read, m};
      if (value(named) != 0) bits |= 1L << m;
    }
    return bits;
  }

  long lost(int month) {
    if (month < 0 || month >= s.now) return -1;
    long[] net = new long[12];
    for (Row r : s.rows) if (r.month <= month) net[r.person] += r.sum;
    long all = Arrays.stream(net).filter(v -> v > 0).sum();
    return Math.max(0, all - s.coinAt.get(month));
  }

  int hand(int days, int floors) {
    if (out(days, 0, (1L << 30) - 1) || out(floors, 0, 15)) return -2;
    if (s.hands.size() == 8) return -4;
    s.hands.add(new Hand(days, floors));
    return s.hands.size() - 1;
  }

  int whose(int what) {
    if (out(what, 0, 3)) return -2;
    List<Integer> sets = new ArrayList<>();
    int size = 0;
    for (; size <= s.hands.size() && sets.isEmpty(); size++) {
      for (int set = 0; set < 1 << s.hands.size(); set++) {
        if (Integer.bitCount(set) == size && tellsAll(set)) sets.add(set);
      }
    }
    if (sets.isEmpty()) return what == 0 ? -5 : 0;
    return switch (what) {
      case 0 -> size - 1;
      case 1 -> sets.size();
      case 2 -> sets.stream().reduce(-1, (x, y) -> x & y);
      default -> sets.stream().reduce(0, (x, y) -> x | y);
    };
  }

  private boolean tellsAll(int set) {
    for (int t : wrongOnes()) {
      boolean told = false;
      for (int h = 0; h < s.hands.size(); h++) {
        Hand it = s.hands.get(h);
        Trade of = s.trades.get(t);
        if ((set & 1 << h) != 0 && (it.days & 1 << of.day) != 0 && (it.floors & 1 << of.floor) != 0) told = true;
      }
      if (!told) return false;
    }
    return true;
  }

  int suit(int brings, int cost, int months) {
    if (out(brings, 1, 100000) || out(cost, 0, 100000) || out(months, 1, 24)) return -2;
    if (s.suits.size() == 8) return -4;
    s.suits.add(new Suit(brings, cost, months));
    return s.suits.size() - 1;
  }

  int best(int m, int what) {
    if (out(m, 0, 60) || out(what, 0, 1)) return -2;
    List<int[]> sets = new ArrayList<>();
    for (int set = 0; set < 1 << s.suits.size(); set++) {
      int gain = 0, months = 0;
      for (int i = 0; i < s.suits.size(); i++) if ((set >> i) % 2 == 1) {
        gain += s.suits.get(i).brings - s.suits.get(i).cost;
        months += s.suits.get(i).months;
      }
      if (months <= m) sets.add(new int[] {-gain, months, set});
    }
    sets.sort(Arrays::compare);
    return what == 0 ? sets.get(0)[2] : -sets.get(0)[0];
  }

  private static int seal(List<Row> rows, int start, int times) {
    BigInteger h = BigInteger.valueOf(start);
    for (Row r : rows) for (int v : new int[] {r.person, r.month, r.sum}) h = h.multiply(BigInteger.valueOf(times)).add(BigInteger.valueOf(v));
    return h.intValue();
  }

  int keep() {
    record = new ArrayList<>(s.rows);
    seals = new int[] {seal(record, 5, 31), seal(record, 7, 33)};
    return record.size();
  }

  int alter(int row, int mask) {
    if (out(row, 0, record.size() - 1) || mask == 0) return -2;
    Row r = record.get(row);
    record.set(row, new Row(r.person, r.month, r.sum ^ mask));
    return 1;
  }

  /** For each row the one sum that mends the first seal, put in its place: is the second right too? */
  int check(int what) {
    if (what < -1) return -2;
    int off = seals[0] - seal(record, 5, 31);
    if (off == 0 && seals[1] == seal(record, 7, 33)) return -1;
    List<Integer> found = new ArrayList<>();
    BigInteger ring = BigInteger.ONE.shiftLeft(32);
    for (int i = 0; i < record.size(); i++) {
      BigInteger factor = BigInteger.valueOf(31).pow(3 * (record.size() - 1 - i)).modInverse(ring);
      int more = BigInteger.valueOf(off).multiply(factor).intValue();
      List<Row> mended = new ArrayList<>(record);
      Row r = record.get(i);
      mended.set(i, new Row(r.person, r.month, r.sum + more));
      if (more != 0 && seal(mended, 5, 31) == seals[0] && seal(mended, 7, 33) == seals[1]) found.add(i);
    }
    if (what == -1) return found.size();
    return what < found.size() ? found.get(what) : -5;
  }

  int image(int i) {
    if (out(i, 0, 1)) return -2;
    images[i] = s.copy();
    return 1;
  }

  int from(int i) {
    if (out(i, 0, 1)) return -2;
    if (images[i] == null) return -3;
    s = images[i].copy();
    return 1;
  }

  int many(int what) {
    if (out(what, 0, 10)) return -2;
    return new int[] {s.persons.size(), s.rows.size(), s.now, s.trades.size(), wrongOnes().size(), s.gifts.size(),
        s.letters.size(), s.hands.size(), s.suits.size(), s.rules.length(), record.size()}[what];
  }

  long digest() {
    List<Long> all = new ArrayList<>();
    for (int i = 0; i <= 10; i++) all.add((long) many(i));
    for (int i = 0; i <= 5; i++) all.add(account(i));
    for (int p = 0; p < s.persons.size(); p++) add(all, s.persons.get(p)[0], s.persons.get(p)[1], s.shown.get(p));
    for (Row r : s.rows) add(all, r.person, r.month, r.sum);
    for (Trade t : s.trades) add(all, t.day, t.price, t.amount, t.floor);
    for (Gift g : s.gifts) add(all, g.from, g.to, g.month, g.sum);
    for (int h = 0; h < 8; h++) {
      add(all, s.houseCoin[h]);
      for (int d : s.dues[h]) add(all, d);
    }
    for (Letter l : s.letters) add(all, l.office, l.asked, l.read);
    for (Hand h : s.hands) add(all, h.days, h.floors);
    for (Suit x : s.suits) add(all, x.brings, x.cost, x.months);
    for (char c : s.rules.toCharArray()) add(all, c);
    for (Row r : record) add(all, r.sum);
    add(all, part(0), part(1));
    BigInteger h = BigInteger.valueOf(383);
    for (long v : all) h = h.multiply(BigInteger.valueOf(31)).add(BigInteger.valueOf(v));
    return h.longValue();
  }

  private static void add(List<Long> all, long... values) {
    for (long v : values) all.add(v);
  }
}
