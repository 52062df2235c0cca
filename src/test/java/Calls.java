/** The calls of the face by their names, so that tables can tell them; where the face takes a boolean it is 1 or 0. */
final class Calls {
  static final String[] NAMES = {"person", "terms", "puts", "draws", "months", "shown", "account", "spans", "falls", "day",
      "trade", "wrong", "first", "even", "funds", "part", "index", "count", "dealt", "tide", "moved", "gift", "years", "take",
      "coin", "due", "struck", "pays", "rounds", "letter", "write", "erase", "fault", "bound", "lost", "hand", "whose", "suit",
      "best", "keep", "alter", "check", "image", "from", "many", "digest"};

  private Calls() {
  }

  /** Numbers behind those that a call takes are passed over. */
  static long call(SteadyFund x, String name, int... a) {
    return switch (name) {
      case "person" -> x.person(a[0], a[1] != 0);
      case "terms" -> x.terms(a[0], a[1]);
      case "puts" -> x.puts(a[0], a[1]);
      case "draws" -> x.draws(a[0], a[1]);
      case "months" -> x.months(a[0]);
      case "shown" -> x.shown(a[0]);
      case "account" -> x.account(a[0]);
      case "spans" -> x.spans(a[0], a[1], a[2], a[3], a[4]);
      case "falls" -> x.falls(a[0]);
      case "day" -> x.day(a[0], a[1], a[2], a[3]);
      case "trade" -> x.trade(a[0], a[1], a[2], a[3]);
      case "wrong" -> x.wrong(a[0]);
      case "first" -> x.first();
      case "even" -> x.even(a[0], a[1], a[2], a[3]);
      case "funds" -> x.funds(a[0], a[1], a[2], a[3], a[4]);
      case "part" -> x.part(a[0]);
      case "index" -> x.index(a[0], a[1]);
      case "count" -> x.count(a[0], a[1]);
      case "dealt" -> x.dealt(a[0], a[1], a[2]);
      case "tide" -> x.tide(a[0]);
      case "moved" -> x.moved(a[0], a[1]);
      case "gift" -> x.gift(a[0], a[1], a[2], a[3]);
      case "years" -> x.years(a[0], a[1]);
      case "take" -> x.take(a[0], a[1]);
      default -> callOfRest(x, name, a);
    };
  }

  private static long callOfRest(SteadyFund x, String name, int... a) {
    return switch (name) {
      case "coin" -> x.coin(a[0], a[1]);
      case "due" -> x.due(a[0], a[1], a[2]);
      case "struck" -> x.struck(a[0] != 0);
      case "pays" -> x.pays(a[0], a[1]);
      case "rounds" -> x.rounds(a[0], a[1]);
      case "letter" -> x.letter(a[0], a[1], a[2]);
      case "write" -> x.write(a[0]);
      case "erase" -> x.erase();
      case "fault" -> x.fault();
      case "bound" -> x.bound();
      case "lost" -> x.lost(a[0]);
      case "hand" -> x.hand(a[0], a[1]);
      case "whose" -> x.whose(a[0]);
      case "suit" -> x.suit(a[0], a[1], a[2]);
      case "best" -> x.best(a[0], a[1]);
      case "keep" -> x.keep();
      case "alter" -> x.alter(a[0], a[1]);
      case "check" -> x.check(a[0]);
      case "image" -> x.image(a[0]);
      case "from" -> x.from(a[0]);
      case "many" -> x.many(a[0]);
      case "digest" -> x.digest();
      default -> throw new IllegalArgumentException(name);
    };
  }

  static String told(String name, int... a) {
    StringBuilder text = new StringBuilder(name).append('(');
    for (int i = 0; i < a.length; i++) text.append(i == 0 ? "" : ", ").append(a[i]);
    return text.append(')').toString();
  }

  /** RULES are that text, and no other. */
  static void rules(SteadyFund x, String text) {
    x.erase();
    for (int i = 0; i < text.length(); i++) x.write(text.charAt(i));
  }
}
