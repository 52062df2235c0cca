import java.util.Random;

/** Long runs of calls, of several kinds, each answered by the class and by the model. The seeds are fixed. */
public final class ModelTest {
  private static final int CALLS = 512, MOST_OF_A_STEP = 5;
  private static final String SIGNS = "csioqrm0123456789()!-+*/<>=&| x\u0000";

  private final Checks checks;
  private final Random random;
  private final int kind;
  private final int run;
  private final SteadyFund fund = new SteadyFund();
  private final Model model = new Model();
  private String text = "";
  private int typed = 0;
  private int made = 0;

  private ModelTest(Checks checks, int run, int kind) {
    this.checks = checks;
    this.run = run;
    this.kind = kind;
    this.random = new Random(1000003L * run + kind);
  }

  public static void main(String[] args) {
    int runs = args.length > 0 ? Integer.parseInt(args[0]) : 2400;
    Checks checks = new Checks("ModelTest");
    for (int run = 0; run < runs; run++) new ModelTest(checks, run, run % 8).go();
    checks.end();
  }

  private void go() {
    for (int step = 0; made <= CALLS - MOST_OF_A_STEP; step++) {
      if (step < 8 && kind != 7) person();
      else if (step % 16 == 15) due("digest()", fund.digest(), model.digest());
      else step();
    }
  }

  private void step() {
    int group = random.nextInt(10) < 6 ? kind : random.nextInt(7);
    switch (group) {
      case 0 -> ledger();
      case 1 -> paper();
      case 2 -> counts();
      case 3 -> houses();
      case 4 -> letters();
      case 5 -> parties();
      case 6 -> records();
      default -> ledger();
    }
  }

  private void due(String what, long got, long want) {
    made++;
    checks.due("run " + run + ": " + what, got, want);
  }

  /** Mostly within, at times at an end, at times beyond. */
  private int near(int low, int high) {
    int odds = random.nextInt(40);
    if (odds == 0) return low - 1;
    if (odds == 1) return high + 1;
    if (odds == 2) return random.nextInt();
    if (odds < 6) return low;
    if (odds < 9) return high;
    return low + random.nextInt(high - low + 1);
  }

  private int sum(int most) {
    return switch (random.nextInt(4)) {
      case 0 -> near(1, most);
      case 1 -> near(1, 5000);
      default -> near(1, 300);
    };
  }

  private int someone() {
    return near(0, Math.max(0, model.many(0) - 1));
  }

  private void person() {
    int house = near(-1, 7);
    boolean good = random.nextBoolean();
    due("person(" + house + ", " + good + ")", fund.person(house, good), model.person(house, good));
  }

  private void ledger() {
    int a = someone(), b = sum(1000000), i;
    switch (random.nextInt(20)) {
      case 0 -> person();
      case 1 -> {
        a = near(0, 20);
        b = near(0, 50);
        due("terms(" + a + ", " + b + ")", fund.terms(a, b), model.terms(a, b));
      }
      case 2, 3, 4, 5 -> due("puts(" + a + ", " + b + ")", fund.puts(a, b), model.puts(a, b));
      case 6, 7, 8, 9 -> draws(a);
      case 10, 11 -> {
        i = random.nextInt(5) == 0 ? near(1, 12) : near(1, 2);
        due("months(" + i + ")", fund.months(i), model.months(i));
      }
      case 12 -> due("shown(" + a + ")", fund.shown(a), model.shown(a));
      case 13 -> {
        i = near(0, 5);
        due("account(" + i + ")", fund.account(i), model.account(i));
      }
      case 14, 15, 16 -> spans();
      case 17 -> {
        i = near(0, 59);
        due("lost(" + i + ")", fund.lost(i), model.lost(i));
      }
      default -> {
        i = near(0, 1);
        due("falls(" + i + ")", fund.falls(i), model.falls(i));
      }
    }
  }

  /** As a fall ends a run's life it is rare: one draws all that is shown only at times. */
  private void draws(int person) {
    long shown = model.shown(person);
    int sum = sum(1000000);
    if (shown > 0 && shown < 1000000 && random.nextInt(3) > 0) sum = 1 + random.nextInt((int) shown);
    if (random.nextInt(12) == 0 && shown > 0 && shown < 2000000) sum = (int) shown + random.nextInt(2);
    if (sum > model.account(0) && random.nextInt(30) > 0) return;
    due("draws(" + person + ", " + sum + ")", fund.draws(person, sum), model.draws(person, sum));
  }

  private void spans() {
    int i = near(0, 11), in0 = sum(1000000), out0 = sum(1000000), in1 = in0 + near(0, 1000), out1 = out0 + near(0, 1000);
    due("spans(" + i + ", " + in0 + ", " + in1 + ", " + out0 + ", " + out1 + ")",
        fund.spans(i, in0, in1, out0, out1), model.spans(i, in0, in1, out0, out1));
  }

  private void paper() {
    int day = random.nextInt(3) == 0 ? near(0, 29) : near(0, 3);
    int low = near(1, 10000), amount = random.nextBoolean() ? near(1, 100000) : near(1, 2000);
    switch (random.nextInt(9)) {
      case 0, 1 -> {
        int high = random.nextBoolean() ? low + random.nextInt(50) : near(1, 10000);
        int sold = near(0, 100000);
        due("day(" + day + ", " + low + ", " + high + ", " + sold + ")",
            fund.day(day, low, high, sold), model.day(day, low, high, sold));
      }
      case 2, 3 -> {
        int floor = near(0, 3);
        due("trade(" + day + ", " + low + ", " + amount + ", " + floor + ")",
            fund.trade(day, low, amount, floor), model.trade(day, low, amount, floor));
      }
      case 4 -> {
        int t = near(0, Math.max(0, model.many(3) - 1));
        due("wrong(" + t + ")", fund.wrong(t), model.wrong(t));
      }
      case 5 -> due("first()", fund.first(), model.first());
      case 6 -> {
        int what = near(0, 1);
        due("part(" + what + ")", fund.part(what), model.part(what));
      }
      default -> {
        int n = near(1, 18), k = near(0, Math.max(0, n < 99 ? n : 9)), b = near(2, 10), a = near(1, Math.max(1, b < 99 ? b - 1 : 9)), w = near(1, 1000000);
        due("even(" + n + ", " + k + ", " + a + ", " + b + ")", fund.even(n, k, a, b), model.even(n, k, a, b));
        due("funds(" + n + ", " + k + ", " + a + ", " + b + ", " + w + ")", fund.funds(n, k, a, b, w), model.funds(n, k, a, b, w));
        due("part(0)", fund.part(0), model.part(0));
        due("part(1)", fund.part(1), model.part(1));
      }
    }
  }

  private void counts() {
    int a = someone(), b = someone(), month = near(0, 59), which;
    int deal = random.nextBoolean() ? near(0, 10000000) : near(0, 4000);
    switch (random.nextInt(11)) {
      case 0 -> {
        int v = near(1, 1000);
        int now = random.nextInt(3) == 0 ? month : model.many(2);
        due("index(" + now + ", " + v + ")", fund.index(now, v), model.index(now, v));
      }
      case 1 -> {
        which = near(0, 2);
        int who = random.nextInt(3) == 0 ? -1 : a;
        due("count(" + who + ", " + which + ")", fund.count(who, which), model.count(who, which));
      }
      case 2, 3 -> {
        which = near(0, 3);
        due("dealt(" + a + ", " + which + ", " + deal + ")", fund.dealt(a, which, deal), model.dealt(a, which, deal));
      }
      case 4, 5 -> {
        due("tide(" + deal + ")", fund.tide(deal), model.tide(deal));
        due("part(0)", fund.part(0), model.part(0));
        due("part(1)", fund.part(1), model.part(1));
      }
      case 6 -> {
        which = near(0, 1);
        due("moved(" + deal + ", " + which + ")", fund.moved(deal, which), model.moved(deal, which));
      }
      case 7 -> {
        int s = sum(1000000);
        due("gift(" + a + ", " + b + ", " + month + ", " + s + ")", fund.gift(a, b, month, s), model.gift(a, b, month, s));
      }
      case 8 -> {
        int good = near(0, 60), bad = near(0, 60);
        due("years(" + good + ", " + bad + ")", fund.years(good, bad), model.years(good, bad));
      }
      case 9 -> {
        which = near(0, 1);
        due("take(" + a + ", " + which + ")", fund.take(a, which), model.take(a, which));
      }
      default -> ledger();
    }
  }

  private void houses() {
    int h = near(0, 7), which = near(0, 1);
    switch (random.nextInt(8)) {
      case 0, 1 -> {
        int v = switch (random.nextInt(4)) {
          case 0 -> near(0, 1000000);
          case 1 -> 0;
          default -> near(0, 300);
        };
        due("coin(" + h + ", " + v + ")", fund.coin(h, v), model.coin(h, v));
      }
      case 2, 3, 4 -> {
        int to = near(0, 7), v = random.nextInt(6) == 0 ? near(0, 10000) : near(0, 600);
        due("due(" + h + ", " + to + ", " + v + ")", fund.due(h, to, v), model.due(h, to, v));
      }
      case 5 -> {
        boolean is = random.nextBoolean();
        due("struck(" + is + ")", fund.struck(is), model.struck(is));
      }
      case 6 -> due("pays(" + h + ", " + which + ")", fund.pays(h, which), model.pays(h, which));
      default -> {
        int what = near(0, 1);
        due("rounds(" + which + ", " + what + ")", fund.rounds(which, what), model.rounds(which, what));
      }
    }
  }

  private void letters() {
    int odds = random.nextInt(30);
    if (odds == 0) {
      int office = near(0, 3), asked = near(0, 59), read = random.nextBoolean() ? -1 : near(Math.max(-2, Math.min(59, asked)), 59);
      due("letter(" + office + ", " + asked + ", " + read + ")", fund.letter(office, asked, read), model.letter(office, asked, read));
    } else if (odds == 1) {
      int c = near(0, 127);
      due("write(" + c + ")", fund.write(c), model.write(c));
    } else if (odds == 2) {
      ledger();
    } else if (typed >= text.length()) {
      due("fault()", fund.fault(), model.fault());
      due("bound()", fund.bound(), model.bound());
      due("erase()", fund.erase(), model.erase());
      text = spoiled(anyText(3));
      typed = 0;
    } else {
      char c = text.charAt(typed++);
      due("write(" + (int) c + ")", fund.write(c), model.write(c));
    }
  }

  private String anyText(int depth) {
    if (random.nextInt(40) == 0) return "(".repeat(random.nextInt(10)) + "1" + ")".repeat(random.nextInt(10));
    if (depth == 0 || random.nextInt(4) == 0) return unit();
    return switch (random.nextInt(6)) {
      case 0 -> "(" + anyText(depth - 1) + ")";
      case 1 -> "!" + anyText(depth - 1);
      case 2 -> "-" + anyText(depth - 1);
      default -> anyText(depth - 1) + "+-*/<>=&|<>=".charAt(random.nextInt(12)) + anyText(depth - 1);
    };
  }

  private String unit() {
    return switch (random.nextInt(4)) {
      case 0 -> "" + random.nextInt(10);
      case 1 -> "" + random.nextInt(random.nextInt(8) == 0 ? 10000000 : 3000);
      default -> "" + "csioqrm".charAt(random.nextInt(7));
    };
  }

  private String spoiled(String whole) {
    StringBuilder t = new StringBuilder(whole);
    for (int i = random.nextInt(3); i > 0; i--) t.insert(random.nextInt(t.length() + 1), ' ');
    if (random.nextInt(5) == 0) t.setCharAt(random.nextInt(t.length()), SIGNS.charAt(random.nextInt(SIGNS.length())));
    if (random.nextInt(8) == 0) t.setLength(random.nextInt(t.length()));
    return t.toString();
  }

  private void parties() {
    switch (random.nextInt(7)) {
      case 0 -> {
        int days = random.nextBoolean() ? near(0, (1 << 30) - 1) : random.nextInt(1 << 4), floors = near(0, 15);
        due("hand(" + days + ", " + floors + ")", fund.hand(days, floors), model.hand(days, floors));
      }
      case 1, 2 -> {
        int what = near(0, 3);
        due("whose(" + what + ")", fund.whose(what), model.whose(what));
      }
      case 3 -> {
        int most = random.nextBoolean() ? 100000 : 10;
        int brings = near(1, most), cost = near(0, most), months = near(1, 24);
        due("suit(" + brings + ", " + cost + ", " + months + ")", fund.suit(brings, cost, months), model.suit(brings, cost, months));
      }
      case 4, 5 -> {
        int m = near(0, 60), what = near(0, 1);
        due("best(" + m + ", " + what + ")", fund.best(m, what), model.best(m, what));
      }
      default -> paper();
    }
  }

  private void records() {
    int i = near(0, 1);
    switch (random.nextInt(9)) {
      case 0 -> due("keep()", fund.keep(), model.keep());
      case 1, 2 -> {
        int row = near(0, Math.max(0, model.many(10) - 1));
        int mask = random.nextInt(3) == 0 ? near(0, 3) : random.nextInt() << random.nextInt(32);
        due("alter(" + row + ", " + mask + ")", fund.alter(row, mask), model.alter(row, mask));
        if (random.nextBoolean()) {
          due("check(-1)", fund.check(-1), model.check(-1));
          due("check(0)", fund.check(0), model.check(0));
        }
        if (random.nextBoolean()) due("alter(" + row + ", " + mask + ")", fund.alter(row, mask), model.alter(row, mask));
      }
      case 3, 4 -> {
        int what = random.nextInt(3) == 0 ? near(-1, 99) : near(-1, 3);
        due("check(" + what + ")", fund.check(what), model.check(what));
      }
      case 5 -> due("image(" + i + ")", fund.image(i), model.image(i));
      case 6 -> {
        if (random.nextInt(4) == 0) due("from(" + i + ")", fund.from(i), model.from(i));
      }
      case 7 -> {
        int what = near(0, 10);
        due("many(" + what + ")", fund.many(what), model.many(what));
      }
      default -> ledger();
    }
  }
}
