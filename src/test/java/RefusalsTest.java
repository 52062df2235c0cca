/** "Refused, changing nothing, the first of: BAD a number is not as told; NO as told; FULL": which comes first of two. */
public final class RefusalsTest {
  private static final Checks checks = new Checks("RefusalsTest");
  private static final int BAD = SteadyFund.BAD, NO = SteadyFund.NO, FULL = SteadyFund.FULL;

  public static void main(String[] args) {
    numbers();
    badAheadOfFull();
    badAheadOfNo();
    noAheadOfFull();
    no();
    struckAsItIs();
    checks.end();
  }

  private static void numbers() {
    checks.due("NONE", SteadyFund.NONE, -1);
    checks.due("BAD", BAD, -2);
    checks.due("NO", NO, -3);
    checks.due("FULL", FULL, -4);
  }

  /** Each row: a call that is FULL, and of each of its numbers what is not as told. */
  private static void badAheadOfFull() {
    badIn(Scene.FULL, FULL, "person", new int[] {0, 1}, new int[][] {{-2, 8}});
    badIn(Scene.FULL, FULL, "puts", new int[] {0, 1}, new int[][] {{-1, 12}, {0, 1000001}});
    badIn(Scene.FULL, FULL, "draws", new int[] {0, 1}, new int[][] {{-1, 12}, {0, 1000001}});
    badIn(Scene.FULL, FULL, "trade", new int[] {0, 1, 1, 0}, new int[][] {{-1, 30}, {0, 10001}, {0, 100001}, {-1, 4}});
    badIn(Scene.FULL, FULL, "gift", new int[] {0, 1, 0, 1}, new int[][] {{-1, 12, 1}, {-1, 12, 0}, {-1, 60}, {0, 1000001}});
    badIn(Scene.FULL, FULL, "letter", new int[] {0, 1, 1}, new int[][] {{-1, 4}, {-1, 60, 2}, {-2, 0, 60}});
    badIn(Scene.FULL, FULL, "write", new int[] {'1'}, new int[][] {{-1, 128}});
    badIn(Scene.FULL, FULL, "hand", new int[] {1, 1}, new int[][] {{-1, 1 << 30}, {-1, 16}});
    badIn(Scene.FULL, FULL, "suit", new int[] {1, 0, 1}, new int[][] {{0, 100001}, {-1, 100001}, {0, 25}});
  }

  private static void badAheadOfNo() {
    badIn(Scene.FALLEN, NO, "puts", new int[] {0, 1}, new int[][] {{-1, 2}, {0, 1000001}});
    badIn(Scene.FALLEN, NO, "draws", new int[] {1, 1}, new int[][] {{-1, 2}, {0, 1000001}});
    badIn(Scene.FALLEN, NO, "months", new int[] {1}, new int[][] {{-1, 0, 13}});
    badIn(Scene.NEW, NO, "from", new int[] {0}, new int[][] {{-1, 2}});
    Scene.FILLED.refuses(checks, BAD, "draws", 2, 1000001);
    Scene.FILLED.refuses(checks, BAD, "draws", 4, 1000000);
  }

  private static void badIn(Scene scene, int otherwise, String name, int[] a, int[][] bad) {
    scene.refuses(checks, otherwise, name, a);
    for (int i = 0; i < bad.length; i++) {
      for (int v : bad[i]) {
        int[] b = a.clone();
        b[i] = v;
        scene.refuses(checks, BAD, name, b);
      }
    }
  }

  /** More than SHOWN, and no ROW is left. */
  private static void noAheadOfFull() {
    SteadyFund x = Scene.FULL.make();
    for (int p = 0; p < 12; p++) {
      int shown = (int) x.shown(p);
      Scene.FULL.refuses(checks, FULL, "draws", p, shown);
      Scene.FULL.refuses(checks, NO, "draws", p, shown + 1);
      Scene.FULL.refuses(checks, NO, "draws", p, 1000000);
      Scene.FULL.refuses(checks, BAD, "draws", p, 1000001);
    }
  }

  /** FALLEN: no IN, no OUT, be it more than SHOWN or not, no month ends; and beyond 59 is BAD with the fund FALLEN, too. */
  private static void no() {
    for (int n = 1; n <= 12; n++) Scene.FALLEN.refuses(checks, NO, "months", n);
    for (int p = 0; p < 2; p++) {
      for (int sum : new int[] {1, 59, 60, 1000000}) {
        Scene.FALLEN.refuses(checks, NO, "puts", p, sum);
        Scene.FALLEN.refuses(checks, NO, "draws", p, sum);
      }
    }
    Scene.FILLED.refuses(checks, NO, "draws", 3, (int) Scene.FILLED.make().shown(3) + 1);
    SteadyFund x = new SteadyFund();
    x.person(0, true);
    x.puts(0, 1000);
    for (int i = 0; i < 11; i++) x.months(5);
    x.draws(0, 1001);
    checks.due("FALLEN in 55", x.account(3), 55);
    checks.due("to 59", x.months(4), NO);
    checks.due("beyond 59", x.months(5), BAD);
    checks.due("now", x.many(2), 55);
  }

  private static void struckAsItIs() {
    Scene.FILLED.refuses(checks, NO, "struck", 0);
    SteadyFund x = Scene.FILLED.make();
    checks.due("struck", x.struck(true), 1);
    checks.due("so it is", x.struck(true), NO);
    checks.due("not struck", x.struck(false), 1);
    checks.due("so it is", x.struck(false), NO);
    checks.due("struck again", x.struck(true), 1);
  }
}
