import java.io.IOException;
import java.io.UncheckedIOException;
import java.lang.reflect.Field;
import java.nio.charset.StandardCharsets;
import java.nio.file.Files;
import java.nio.file.Path;
import java.util.ArrayList;
import java.util.Arrays;
import java.util.List;
import java.util.Map;
import java.util.regex.Matcher;
import java.util.regex.Pattern;
import java.util.stream.Stream;

/**
 * Reads ../shared/DOC.md from its first line: what is told there in a set form (constants, headings, signatures, what each
 * promise refuses, what the interface says) is held against the class as it stands there, and README.md against both.
 */
public final class DocumentTest {
  private record Promise(int number, String name, String returns, List<String> types, List<String> names, String text) {
    /** What a number that is not as told is answered by: BAD, or what stands behind it; 0 where the promise tells of none. */
    int bad() {
      Matcher other = Pattern.compile("\\bBAD: (-\\d)").matcher(text);
      return other.find() ? Integer.parseInt(other.group(1)) : tells("BAD") ? SteadyFund.BAD : 0;
    }

    boolean tells(String refusal) {
      return Pattern.compile("\\b" + refusal + "\\b").matcher(text).find();
    }

    String call() {
      return name + "(" + String.join(", ", names) + ")";
    }
  }

  private static final Checks checks = new Checks("DocumentTest");
  private static final Path DOCUMENT = Path.of("../shared/DOC.md"), SOURCE = Path.of("src/main/java/SteadyFund.java"),
      TESTS = Path.of("src/test/java"), README = Path.of("README.md");
  /** For each call that the document lets be NO: an object in which it is, and the numbers. */
  private static final Map<String, Scene> WHERE_NO = Map.of("puts", Scene.FALLEN, "draws", Scene.FALLEN,
      "months", Scene.FALLEN, "struck", Scene.NEW, "bound", Scene.NEW, "from", Scene.NEW);
  private static final Map<String, int[]> NUMBERS = Map.of("puts", of(0, 1), "draws", of(0, 1), "months", of(1),
      "struck", of(0), "from", of(0), "person", of(0, 1), "trade", of(0, 1, 1, 0), "gift", of(0, 1, 0, 1),
      "letter", of(0, 0, 0), "suit", of(1, 0, 1));

  public static void main(String[] args) {
    String document = read(DOCUMENT);
    List<Promise> promises = promises(document);
    constants(document);
    eachOfTheFace(promises);
    for (Promise p : promises) {
      badNumbers(p);
      no(p);
      full(p);
    }
    interfaceSays(document);
    testOfEach(promises);
    readmeOfEach(promises);
    readmeExample();
    checks.end();
  }

  private static int[] of(int... numbers) {
    return numbers;
  }

  private static String read(Path path) {
    try {
      return Files.readString(path, StandardCharsets.UTF_8);
    } catch (IOException e) {
      throw new UncheckedIOException(e);
    }
  }

  /** "## Promise 2: person", then "`int person(int house, boolean good)`: what it does."; of a new object the constructor. */
  private static List<Promise> promises(String document) {
    List<Promise> all = new ArrayList<>();
    Matcher m = Pattern.compile("## Promise (\\d+): (.+)\n\n`(?:(int|long) )?(\\w+)\\(([^)]*)\\)`: (.*)\n").matcher(document);
    while (m.find()) {
      List<String> types = new ArrayList<>(), names = new ArrayList<>();
      for (String told : m.group(5).isEmpty() ? new String[0] : m.group(5).split(", ")) {
        types.add(told.split(" ")[0]);
        names.add(told.split(" ")[1]);
      }
      all.add(new Promise(Integer.parseInt(m.group(1)), m.group(4), m.group(3), types, names, m.group(6)));
      checks.holds("the heading of promise " + m.group(1), m.group(2).equals(all.size() == 1 ? "A new object" : m.group(4)));
    }
    return all;
  }

  /** "public static final int NONE = -1, BAD = -2, NO = -3, FULL = -4;" */
  private static void constants(String document) {
    Matcher line = Pattern.compile("public static final int ([^;]*);").matcher(document);
    checks.holds("constants are told", line.find());
    checks.holds("they stand so in the class", read(SOURCE).contains("  " + line.group() + "\n"));
    int told = 0;
    for (String one : line.group(1).split(", ")) {
      String[] parts = one.split(" = ");
      told++;
      try {
        Field field = SteadyFund.class.getField(parts[0]);
        checks.due(parts[0], field.getInt(null), Integer.parseInt(parts[1]));
        checks.holds(parts[0] + " is an int", field.getType() == int.class);
      } catch (ReflectiveOperationException e) {
        checks.holds("there is " + parts[0], false);
      }
    }
    checks.due("no other constant is public", SteadyFund.class.getFields().length, told);
  }

  /** Promises 1 to 47: the constructor, then the calls in the order in which the face tells them. */
  private static void eachOfTheFace(List<Promise> promises) {
    checks.due("promises", promises.size(), 47);
    for (int i = 0; i < promises.size(); i++) {
      Promise p = promises.get(i);
      checks.due("the number of the promise of " + p.name, p.number, i + 1);
      if (i == 0) {
        checks.holds("the first is the constructor", p.name.equals("SteadyFund") && p.types.isEmpty());
        continue;
      }
      checks.holds("promise " + p.number + " is of " + Calls.NAMES[i - 1], p.name.equals(Calls.NAMES[i - 1]));
      try {
        Class<?>[] types = p.types.stream().map(t -> t.equals("boolean") ? boolean.class : int.class).toArray(Class<?>[]::new);
        checks.holds(p.call() + " answers " + p.returns, SteadyFund.class.getMethod(p.name, types).getReturnType().getName().equals(p.returns));
      } catch (NoSuchMethodException e) {
        checks.holds("there is " + p.call(), false);
      }
    }
  }

  /** Each number that is far from all that can be told is BAD, as the promise writes it, and nothing changes by it. */
  private static void badNumbers(Promise p) {
    checks.due("is a number of " + p.call() + " told to be BAD", p.bad() == 0 ? 0 : 1, p.types.contains("int") ? 1 : 0);
    for (int place = 0; place < p.names.size(); place++) {
      if (!p.types.get(place).equals("int") || p.names.get(place).equals("mask")) continue;
      for (int v : of(Integer.MIN_VALUE, Integer.MAX_VALUE)) {
        int[] a = new int[p.names.size()];
        Arrays.fill(a, 1);
        a[place] = v;
        if (p.name.equals("check") && v > 0) continue;
        for (Scene scene : new Scene[] {Scene.NEW, Scene.FILLED, Scene.FALLEN}) scene.refuses(checks, p.bad(), p.name, a);
      }
    }
  }

  private static void no(Promise p) {
    checks.due("is " + p.call() + " told to be NO", p.tells("NO") ? 1 : 0, WHERE_NO.containsKey(p.name) ? 1 : 0);
    if (p.tells("NO")) WHERE_NO.get(p.name).refuses(checks, SteadyFund.NO, p.name, NUMBERS.getOrDefault(p.name, of()));
  }

  /** "FULL: 12": so many come, and no more. */
  private static void full(Promise p) {
    Matcher most = Pattern.compile("FULL: (\\d+)").matcher(p.text);
    if (!most.find()) return;
    SteadyFund x = new SteadyFund();
    for (int i = 0; i < 2 && !p.name.equals("person"); i++) x.person(0, true);
    int came = 0;
    while (came < 200 && Calls.call(x, p.name, NUMBERS.getOrDefault(p.name, of(1, 1))) >= 0) came++;
    checks.due("so many come by " + p.call(), came, Integer.parseInt(most.group(1)));
    checks.due("one more by " + p.call(), Calls.call(x, p.name, NUMBERS.getOrDefault(p.name, of(1, 1))), SteadyFund.FULL);
  }

  /** "Ahead of the calls `person`, .. the interface says: ---- the fund." */
  private static void interfaceSays(String document) {
    StringBuilder due = new StringBuilder(), is = new StringBuilder();
    Matcher told = Pattern.compile("Ahead of the calls (.*) the interface says: (---- .*)\\.\n").matcher(document);
    while (told.find()) {
      due.append("// ").append(told.group(2)).append('\n');
      for (String name : told.group(1).split(", ")) due.append(name.replace("`", "")).append('\n');
    }
    Matcher line = Pattern.compile("(?m)^  (// ---- .*)$|^  public (?:int|long) (\\w+)\\(").matcher(read(SOURCE));
    while (line.find()) is.append(line.group(1) != null ? line.group(1) : line.group(2)).append('\n');
    checks.holds("the document tells what the interface says", due.length() > 0);
    checks.holds("ahead of which calls the interface says what:\n" + is, due.toString().equals(is.toString()));
  }

  /** Each promise has a function of its own by hand, marked by its number. */
  private static void testOfEach(List<Promise> promises) {
    StringBuilder all = new StringBuilder();
    try (Stream<Path> files = Files.list(TESTS)) {
      files.filter(f -> f.toString().endsWith("Test.java")).sorted().forEach(f -> all.append(read(f)));
    } catch (IOException e) {
      throw new UncheckedIOException(e);
    }
    for (Promise p : promises) {
      boolean is = Pattern.compile("/\\*\\* Promise " + p.number + "[.:]").matcher(all).find();
      checks.holds("promise " + p.number + " has a test of its own", is);
    }
  }

  /** README.md tells each call, and of which refusals its promise speaks. */
  private static void readmeOfEach(List<Promise> promises) {
    String readme = read(README);
    for (Promise p : promises.subList(1, promises.size())) {
      Matcher row = Pattern.compile("\\| `" + Pattern.quote(p.call()) + "` \\| (.*) \\| (.*) \\|\n").matcher(readme);
      boolean is = row.find();
      checks.holds("README tells of " + p.call(), is);
      if (!is) continue;
      String refused = row.group(2);
      checks.holds("README: BAD of " + p.name, refused.contains("BAD") == p.tells("BAD"));
      checks.holds("README: BAD as -1 of " + p.name, refused.contains("as -1") == (p.bad() == -1));
      checks.holds("README: NO of " + p.name, refused.contains("NO:") == p.tells("NO"));
      checks.holds("README: FULL of " + p.name, refused.contains("FULL") == p.tells("FULL"));
      checks.holds("README: never refused, " + p.name, refused.equals("never") == !(p.tells("BAD") || p.tells("NO")));
    }
    checks.holds("README: for how many calls", readme.contains("512 calls") && read(DOCUMENT).contains("at most 512 calls"));
    checks.holds("README: how to run the tests", readme.contains(".ci/run"));
  }

  /** README's example, line by line: each call is answered as the line says. */
  private static void readmeExample() {
    SteadyFund x = new SteadyFund();
    Matcher line = Pattern.compile("fund\\.(\\w+)\\((.*)\\); *// (-?\\d+)").matcher(read(README));
    int lines = 0;
    while (line.find()) {
      String[] told = line.group(2).isEmpty() ? new String[0] : line.group(2).split(", ");
      int[] a = new int[told.length];
      for (int i = 0; i < a.length; i++) a[i] = number(told[i]);
      checks.due("README: " + line.group(1) + "(" + line.group(2) + ")", Calls.call(x, line.group(1), a), Long.parseLong(line.group(3)));
      lines++;
    }
    checks.holds("README has an example", lines > 20);
  }

  private static int number(String told) {
    if (told.equals("SteadyFund.NONE")) return SteadyFund.NONE;
    if (told.equals("true") || told.equals("false")) return told.equals("true") ? 1 : 0;
    return told.startsWith("'") ? told.charAt(1) : Integer.parseInt(told);
  }
}
