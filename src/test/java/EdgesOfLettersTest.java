/** Terms 5, promises 31 to 36: the edges of LETTERS, of RULES, of their FAULT and BOUND, and of what was LOST. */
public final class EdgesOfLettersTest {
  private static final Checks checks = new Checks("EdgesOfLettersTest");
  private static final int BAD = SteadyFund.BAD, NO = SteadyFund.NO, NONE = SteadyFund.NONE;

  public static void main(String[] args) {
    readNoEarlier();
    askedByThen();
    readByThen();
    everyCharacterFirst();
    everyCharacterBehindAUnit();
    everyCharacterBehindASign();
    blanks();
    digitsOneToSix();
    theSeventhDigit();
    openOneToEight();
    theNinthOpen();
    oneComparisonAlone();
    tooEarly();
    theFirstThatCanNot();
    emptyRules();
    erased();
    faultIsNo();
    truths();
    allIsWorked();
    cutTowardZero();
    byZeroIsZero();
    longsNotInts();
    longsWrap();
    order();
    monthsThatHaveEnded();
    asTheMonthEnded();
    inAndOutOfTheMonth();
    lostZeroAtLeast();
    lostByThen();
    checks.end();
  }

  private static void fault(String text, int due) {
    SteadyFund x = new SteadyFund();
    Calls.rules(x, text);
    checks.due("FAULT of '" + text + "'", x.fault(), due);
    checks.due("BOUND of '" + text + "'", x.bound(), due == NONE ? 0 : NO);
  }

  /** By RULES that fit: do they tell a truth in month 0, the only one that has ended? */
  private static void holds(String text, boolean due) {
    SteadyFund x = new SteadyFund();
    x.months(1);
    Calls.rules(x, text);
    checks.due("FAULT of '" + text + "'", x.fault(), NONE);
    checks.due("BOUND of '" + text + "'", x.bound(), due ? 1 : 0);
  }

  private static void bound(SteadyFund x, String text, long due) {
    Calls.rules(x, text);
    checks.due("BOUND of '" + text + "'", x.bound(), due);
  }

  /** "read in one no earlier, or never (NONE)". */
  private static void readNoEarlier() {
    for (int asked : new int[] {0, 1, 30, 58, 59}) {
      SteadyFund x = new SteadyFund();
      if (asked > 0) checks.due("one earlier", x.letter(0, asked, asked - 1), BAD);
      checks.due("one below NONE", x.letter(0, asked, -2), BAD);
      checks.due("the same", x.letter(0, asked, asked), 0);
      checks.due("the last", x.letter(0, asked, 59), 1);
      checks.due("beyond", x.letter(0, asked, 60), BAD);
      checks.due("never", x.letter(0, asked, NONE), 2);
    }
  }

  /** "q LETTERS asked by then": in that month it counts, the month ahead of it not. */
  private static void askedByThen() {
    SteadyFund x = new SteadyFund();
    x.letter(0, 0, NONE);
    x.letter(1, 3, NONE);
    x.letter(2, 3, 9);
    x.letter(3, 5, NONE);
    x.letter(3, 59, NONE);
    x.months(8);
    bound(x, "q=0", 0);
    bound(x, "q=1", 7);
    bound(x, "q=3", 8 + 16);
    bound(x, "q=4", 32 + 64 + 128);
    bound(x, "q=5", 0);
  }

  /** "r of them read by then": in that month it counts; one that is never read never does, though NONE is below all MONTHS. */
  private static void readByThen() {
    SteadyFund x = new SteadyFund();
    x.letter(0, 0, NONE);
    x.letter(0, 0, 0);
    x.letter(0, 2, 2);
    x.letter(0, 1, 4);
    x.letter(0, 0, 59);
    x.months(8);
    bound(x, "r=1", 3);
    bound(x, "r=2", 4 + 8);
    bound(x, "r=3", 16 + 32 + 64 + 128);
    bound(x, "q=5", 255 - 3);
    bound(x, "r>q", 0);
  }

  /** A character (0 .. 127) alone: a UNIT, the head of one, a blank, or one that can not stand first. */
  private static void everyCharacterFirst() {
    for (int c = 0; c < 128; c++) {
      boolean unit = "0123456789csioqrm".indexOf(c) >= 0, head = "(!- ".indexOf(c) >= 0;
      fault("" + (char) c, unit ? NONE : head ? 11 : 1);
    }
  }

  private static void everyCharacterBehindAUnit() {
    for (int c = 0; c < 128; c++) {
      boolean sign = "|&<>=+-*/".indexOf(c) >= 0, blank = c == ' ', digit = '0' <= c && c <= '9';
      fault("m" + (char) c, blank ? NONE : sign ? 21 : 11);
      fault("7" + (char) c, blank || digit ? NONE : sign ? 21 : 11);
      fault("(m" + (char) c, c == ')' ? NONE : blank || sign ? 31 : 21);
    }
  }

  private static void everyCharacterBehindASign() {
    for (char sign : "|&<>=+-*/!".toCharArray()) {
      String text = sign == '!' ? "!" : "m" + sign;
      for (int c = 0; c < 128; c++) {
        boolean unit = "0123456789csioqrm".indexOf(c) >= 0, head = "(!- ".indexOf(c) >= 0;
        int place = 10 * text.length();
        fault(text + (char) c, unit ? NONE : head ? place + 11 : place + 1);
      }
    }
  }

  /** "blanks anywhere but within digits": ahead, between, behind; they have places, too. */
  private static void blanks() {
    fault("  m  ", NONE);
    fault(" ( m ) ", NONE);
    fault(" ! - ! m ", NONE);
    fault(" 1 + 2 * 3 < 4 & 5 = 6 | 7 > 8 / 9 - 0 ", NONE);
    fault("1 2", 21);
    fault("12  3", 41);
    fault("  12 3", 51);
    fault("  x", 21);
    fault("m  m", 31);
    fault("m\t", 11);
    fault("m\n", 11);
    fault("\0", 1);
    fault(" ", 11);
    fault("  ", 21);
    fault(" ".repeat(40), 401);
    fault(" ".repeat(39) + "m", NONE);
    fault("m" + " ".repeat(39), NONE);
    fault("m+" + " ".repeat(38), 401);
  }

  /** "digits (1 .. 6)": of each number as it stands, with zeros ahead. */
  private static void digitsOneToSix() {
    int[] powers = {1, 10, 100, 1000, 10000, 100000};
    String digits = "";
    for (int n = 1; n <= 6; n++) {
      digits += "9";
      fault(digits, NONE);
      holds(digits + "+1=10*" + powers[n - 1], true);
    }
    holds("0", false);
    holds("000000", false);
    holds("000001=1", true);
    holds("123456=1000*123+456", true);
    holds("654321-654320", true);
    holds("0123=123", true);
    fault("999999+999999*999999", NONE);
  }

  /** "2: a seventh digit (at the first)": at the first of that number, be there more, and blanks ahead. */
  private static void theSeventhDigit() {
    fault("0000000", 2);
    fault("1234567", 2);
    fault("12345678", 2);
    fault("1".repeat(40), 2);
    fault(" 1234567", 12);
    fault("1+1234567", 22);
    fault("123456+1234567", 72);
    fault("(1234567", 12);
    fault("-1234567)", 12);
    fault("1234567x", 2);
    fault("1 1234567", 21);
    fault("m1234567", 11);
    fault("1".repeat(33) + "+1234567", 2);
    fault("1+".repeat(16) + " 1234567", 332);
  }

  private static void openOneToEight() {
    for (int n = 1; n <= 8; n++) {
      fault("(".repeat(n) + "m" + ")".repeat(n), NONE);
      fault("(".repeat(n) + "m" + ")".repeat(n - 1), 20 * n + 1);
      fault("(".repeat(n) + "m" + ")".repeat(n + 1), 10 * (2 * n + 1) + 1);
      fault("(".repeat(n), 10 * n + 1);
    }
    fault("((((((((1))))))))+((((((((1))))))))", NONE);
    fault("(((((((((1)))))))))", 83);
    fault("!(!(!(!(!(!(!(!(m))))))))", NONE);
    holds("((((((((1))))))))", true);
    holds("!(!(!(!(!(!(!(!(0))))))))", false);
  }

  /** "3: the 9th ( open": it alone; those that are closed are open no more; and one that can not stand there is 1. */
  private static void theNinthOpen() {
    fault("(((((((((", 83);
    fault("(".repeat(40), 83);
    fault("((((((((!(", 93);
    fault("((((((((1+(", 103);
    fault("((((((((1)+(1)))))))", 201);
    fault("((((((((1)+((", 123);
    fault("((((((((1)))))))+(((((((((", 243);
    fault("((((((((1(", 91);
    fault("((((((((  (", 103);
    fault("(1)(", 31);
  }

  /** "HELD: SUM, or SUM < SUM, SUM > SUM, SUM = SUM": one of them, in each HELD. */
  private static void oneComparisonAlone() {
    for (char a : "<>=".toCharArray()) {
      for (char b : "<>=".toCharArray()) {
        fault("1" + a + "2" + b + "3", 31);
        fault("(1" + a + "2" + b + "3)", 41);
        fault("1" + a + "2&3" + b + "4", NONE);
        fault("1" + a + "2|3" + b + "4", NONE);
        fault("(1" + a + "2)" + b + "3", NONE);
        fault("1" + a + "(2" + b + "3)", NONE);
        fault("1" + a + b + "2", 21);
      }
    }
  }

  /** "(its length: too early)". */
  private static void tooEarly() {
    for (String text : new String[] {"", " ", "(", "!", "-", "m+", "m-", "m*", "m/", "m<", "m>", "m=", "m&", "m|", "(m", "((m)",
        "!(m", "m+(", "m+ ", "(m ", "1&(1|(0", "m+-", "m*!", "m=-(", "999999*"}) fault(text, 10 * text.length() + 1);
    fault("m+".repeat(20), 401);
    fault("-".repeat(40), 401);
    fault("!".repeat(39) + "m", NONE);
    fault("-".repeat(39) + "9", NONE);
    fault("-!".repeat(19) + "-m", NONE);
  }

  /** "of the first character that can not stand there": the first fault of more, of whichever kind. */
  private static void theFirstThatCanNot() {
    fault("x1234567", 1);
    fault("1234567(((((((((", 2);
    fault("(((((((((1234567", 83);
    fault("((((((((1234567", 82);
    fault("((((((((x(", 81);
    fault("m)1234567", 11);
    fault("(m))(", 31);
    fault("1<2<1234567", 31);
    fault("+", 1);
    fault("*m", 1);
    fault(")", 1);
    fault("m!", 11);
    fault("m!=m", 11);
    fault("m<=m", 21);
    fault("m==m", 21);
    fault("m&&m", 21);
    fault("()", 11);
    fault("m()", 11);
    fault("M", 1);
    fault("1c", 11);
    fault("c1", 11);
  }

  /** "FAULT (of empty ones 1)". */
  private static void emptyRules() {
    SteadyFund x = new SteadyFund();
    checks.due("at first", x.fault(), 1);
    checks.due("at first", x.bound(), NO);
    x.months(3);
    checks.due("months later", x.bound(), NO);
    x.write('1');
    checks.due("a character", x.bound(), 7);
    x.erase();
    checks.due("empty again", x.fault(), 1);
    checks.due("empty again", x.bound(), NO);
  }

  /** "RULES are empty: how many": nothing of them is left, even where less is written then. */
  private static void erased() {
    SteadyFund x = new SteadyFund();
    long before = x.digest();
    checks.due("none", x.erase(), 0);
    checks.due("nothing has changed", x.digest(), before);
    Calls.rules(x, "(".repeat(40));
    checks.due("all 40", x.erase(), 40);
    checks.due("none", x.erase(), 0);
    checks.due("as before", x.digest(), before);
    x.write('m');
    checks.due("one alone", x.fault(), NONE);
    checks.due("one alone", x.many(9), 1);
  }

  /** "NO: FAULT": of each kind. */
  private static void faultIsNo() {
    SteadyFund x = new SteadyFund();
    x.months(2);
    for (String text : new String[] {"", "m+", "mm", "1234567", "((((((((("}) bound(x, text, NO);
    bound(x, "1", 3);
    bound(x, "0", 0);
  }

  /** "truths 1, 0": what | and & and ! and comparisons tell is 1 or 0; what is not 0 is a truth. */
  private static void truths() {
    for (String text : new String[] {"(5|0)=1", "(0|7)=1", "(3|4)=1", "(0|0)=0", "(5&7)=1", "(5&0)=0", "(0&5)=0", "(0&0)=0",
        "!5=0", "!0=1", "!1=0", "!-1=0", "(1<2)=1", "(2<1)=0", "(2>1)=1", "(1=1)=1", "(1=2)=0", "(5)=5", "1", "2", "-1", "-7",
        "0|0|3", "1&2&3", "(-5|0)=1", "(-5&-5)=1", "!!5=1"}) holds(text, true);
    for (String text : new String[] {"0", "-0", "1-1", "!1", "!2", "!-3", "0|0", "0&1", "1&2&0", "1=2", "2<2", "2>2"}) holds(text, false);
  }

  /** "all is worked": what is behind a truth that is told already is read, too, and its FAULT is found. */
  private static void allIsWorked() {
    fault("1|", 21);
    fault("0&", 21);
    fault("1|x", 21);
    fault("0&x", 21);
    fault("1|1234567", 22);
    holds("1|0/0", true);
    holds("1|0&0", true);
    holds("(1|0)+1=2", true);
    holds("0&1|1", true);
    holds("(0&0)+1=1", true);
  }

  /** "/ cut toward 0". */
  private static void cutTowardZero() {
    for (String text : new String[] {"7/2=3", "-7/2=-3", "7/-2=-3", "-7/-2=3", "1/2=0", "-1/2=0", "1/-2=0", "6/3=2", "-6/3=-2",
        "0/5=0", "-999999/500000=-1", "-(7/2)=-7/2"}) holds(text, true);
  }

  /** "by 0 is 0". */
  private static void byZeroIsZero() {
    for (String text : new String[] {"5/0=0", "-5/0=0", "0/0=0", "5/(1-1)=0", "5/0/0=0", "5/0+1=1", "5/-0=0", "1/(5/0)=0",
        "6/!1=0", "2*3/0=0", "5/0*7=0"}) holds(text, true);
    holds("5/0", false);
  }

  /** 65536 twice is 2 to the 32nd, of which an int would keep 0. */
  private static void longsNotInts() {
    String big = "65536*65536";
    for (String text : new String[] {big, "-" + big, "0+" + big, "0-" + big, "0|" + big, big + "|0", "1&" + big, big + "&1",
        "2*(" + big + ")", "(" + big + ")/2", big + ">0", "0<" + big, big + "/65536=65536", "-" + big + "<0", "(" + big + ")",
        big + "-1>999999", "32768*65536>0", "-32768*65536-1<0"}) holds(text, true);
    for (String text : new String[] {"!(" + big + ")", "0=" + big, big + "=0", big + "<1", "-" + big + "=0"}) holds(text, false);
  }

  /** 524288 is 2 to the 19th: three of them and 64 are 2 to the 63rd, which is below 0. */
  private static void longsWrap() {
    String most = "524288*524288*524288*64";
    for (String text : new String[] {most + "<0", most + "-1>0", "-(" + most + ")<0", most + "*2=0", most + "/2<0",
        "(" + most + ")/-1<0", "524288*524288*524288*32>0", "-" + most + "<0", "-" + most + "-1>0", "(" + most + ")*-1<0",
        "524288*524288*524288*524288=0"}) holds(text, true);
    holds("999999*999999*999999<999999*999999", false);
    holds("999999*999999*999999*10<0", true);
    holds("999999*999999*999999*9>0", true);
    holds("999999*999999>999999", true);
  }

  /** Which is worked first: ! and - ahead of a UNIT, * and /, + and -, comparisons, &, |; of like ones from the left. */
  private static void order() {
    for (String text : new String[] {"1+2*3=7", "(1+2)*3=9", "9-3-2=4", "9-(3-2)=8", "9-3+2=8", "8/4/2=1", "8/(4/2)=4", "8/4*2=4",
        "7*2/4=3", "7/4*2=2", "-2+5=3", "-2*-2=4", "5--2=7", "5-!0=4", "!0+1=2", "!(0+1)=0", "1<1+1", "2*2>3", "1|0&0", "0&0|1",
        "1|1=2", "1=2|1", "1<2&2<3", "-1<0", "!1<1", "1+1=2&2+2=4", "(1|0&0)=1", "((1|0)&0)=0"}) holds(text, true);
    holds("(1|1)&0", false);
    holds("(1=2|1)=0", false);
  }

  /** "MONTHS that have ended": none, the first, all but the last that never ends. */
  private static void monthsThatHaveEnded() {
    SteadyFund x = new SteadyFund();
    bound(x, "1", 0);
    for (int m = 0; m < 59; m++) {
      x.months(1);
      checks.due("MONTHS that have ended by " + (m + 1), x.bound(), (2L << m) - 1);
      checks.due("it has ended", x.lost(m), 0);
      checks.due("now has not", x.lost(m + 1), -1);
    }
    bound(x, "m=58", 1L << 58);
    bound(x, "m=59", 0);
    bound(x, "m=0", 1);
    bound(x, "m=31|m=32|m=33", 7L << 31);
    bound(x, "!m", 1);
    checks.due("below MONTHS", x.lost(-1), -1);
    checks.due("behind MONTHS", x.lost(60), -1);
  }

  /** "(c, s as the month ended, behind all of it)": behind FEE and growth, ahead of what comes in next month. */
  private static void asTheMonthEnded() {
    SteadyFund x = new SteadyFund();
    x.terms(20, 50);
    x.person(0, true);
    x.person(0, true);
    x.puts(0, 1000);
    x.puts(1, 100);
    x.months(1);
    x.puts(0, 500);
    x.draws(1, 5);
    x.months(1);
    x.draws(0, 1);
    bound(x, "c=1078", 1);
    bound(x, "s=1155", 1);
    bound(x, "c=1542", 2);
    bound(x, "s=1732", 2);
    bound(x, "c=1100|c=1573|s=1100|s=1650", 0);
    SteadyFund y = new SteadyFund();
    y.terms(0, 50);
    y.person(0, true);
    for (int i = 0; i < 100; i++) y.puts(0, 1000000);
    for (int i = 0; i < 5; i++) y.months(i == 0 ? 11 : 12);
    bound(y, "c=10000*10000", (1L << 59) - 1);
    bound(y, "s>1700*1000*1000", 1L << 58);
    bound(y, "s<0", 0);
  }

  /** "i IN of the month, o OUT of it": of it alone. */
  private static void inAndOutOfTheMonth() {
    SteadyFund x = new SteadyFund();
    x.person(0, true);
    x.person(0, true);
    for (int m = 0; m < 3; m++) {
      x.puts(0, 100 + m);
      x.puts(1, 10);
      x.draws(0, 5 + m);
      x.draws(1, 1);
      x.months(1);
    }
    x.months(1);
    for (int m = 0; m < 3; m++) {
      bound(x, "i=" + (110 + m), 1 << m);
      bound(x, "o=" + (6 + m), 1 << m);
    }
    bound(x, "i=0", 8);
    bound(x, "o=0", 8);
    x.puts(0, 9);
    bound(x, "i=0", 8);
  }

  /** "less COIN then (0 at least)", "IN less OUT (0 at least) of each". */
  private static void lostZeroAtLeast() {
    SteadyFund x = new SteadyFund();
    x.person(0, true);
    x.puts(0, 49);
    x.terms(20, 50);
    x.months(1);
    checks.due("as much as COIN", x.lost(0), 0);
    x.puts(0, 1);
    x.months(1);
    checks.due("one more than COIN", x.lost(1), 1);
    SteadyFund y = new SteadyFund();
    y.terms(0, 50);
    y.person(0, true);
    y.person(0, true);
    y.puts(0, 100);
    y.puts(1, 100);
    y.months(12);
    for (int out = 99; out <= 101; out++) {
      y.draws(0, out == 99 ? 99 : 1);
      y.months(1);
      checks.due("OUT " + out + ": what one drew beyond his IN another lost", y.lost(y.many(2) - 1), Math.max(0, out - 100));
    }
  }

  /** "by then": ROWS of that month count, of later ones not. */
  private static void lostByThen() {
    SteadyFund x = new SteadyFund();
    x.terms(10, 0);
    x.person(0, true);
    x.puts(0, 1000);
    x.months(1);
    x.puts(0, 1010);
    x.months(1);
    x.draws(0, 80);
    x.months(1);
    for (int i = 0; i < 2; i++) {
      checks.due("1000 less 990", x.lost(0), 10);
      checks.due("2010 less 1980", x.lost(1), 30);
      checks.due("1930 less 1881", x.lost(2), 49);
      x.puts(0, 5000);
    }
    checks.due("not ended", x.lost(3), -1);
  }
}
