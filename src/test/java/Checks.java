/** Counts the answers that are not as due and prints them. */
final class Checks {
  private static final long MOST_MILLISECONDS = 200000;

  private final String name;
  private int made;
  private int wrong;

  Checks(String name) {
    this.name = name;
    Thread watch = new Thread(this::watch);
    watch.setDaemon(true);
    watch.start();
  }

  /** A call that does not end fails the test, too. */
  private void watch() {
    try {
      Thread.sleep(MOST_MILLISECONDS);
    } catch (InterruptedException e) {
      return;
    }
    System.out.println(name + ": a call does not end");
    Runtime.getRuntime().halt(1);
  }

  void due(String what, long got, long want) {
    made++;
    if (got == want) return;
    wrong++;
    System.out.println(name + ": " + what + " answered " + got + ", due is " + want);
  }

  void holds(String what, boolean is) {
    made++;
    if (is) return;
    wrong++;
    System.out.println(name + ": " + what + " does not hold");
  }

  /** What was refused changed nothing: the digest, which tells of nearly all, is as it was. */
  void refused(String what, SteadyFund fund, long before, long got, long want) {
    due(what, got, want);
    due(what + ", then digest", fund.digest(), before);
  }

  void end() {
    System.out.println(name + ": " + made + " checks, " + wrong + " not as due");
    if (wrong != 0 || made == 0) System.exit(1);
  }
}
