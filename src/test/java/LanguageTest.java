import java.io.IOException;
import java.lang.reflect.Constructor;
import java.lang.reflect.Field;
import java.lang.reflect.Method;
import java.lang.reflect.Modifier;
import java.nio.charset.StandardCharsets;
import java.nio.file.Files;
import java.nio.file.Path;
import java.util.ArrayList;
import java.util.List;
import java.util.Set;
import java.util.TreeSet;
import java.util.regex.Matcher;
import java.util.regex.Pattern;

/** Rules of ../shared/LANGUAGE.md that can be read off the class or its text. */
public final class LanguageTest {
  private static final Checks checks = new Checks("LanguageTest");

  public static void main(String[] args) throws IOException {
    String source = Files.readString(Path.of("src/main/java/SteadyFund.java"), StandardCharsets.US_ASCII);
    List<Class<?>> all = new ArrayList<>(List.of(SteadyFund.class.getDeclaredClasses()));
    all.add(SteadyFund.class);
    face();
    for (Class<?> c : all) oneClass(c);
    checks.holds("rule 11: some twelve classes", all.size() <= 12);
    words(withoutTexts(source));
    methods(source);
    checks.end();
  }

  /** Rule 1. */
  private static void face() {
    Set<String> due = new TreeSet<>(List.of(Calls.NAMES)), is = new TreeSet<>();
    for (Method m : SteadyFund.class.getDeclaredMethods()) {
      if (Modifier.isPublic(m.getModifiers())) is.add(m.getName());
      else checks.holds("rule 1: " + m.getName() + " is private", Modifier.isPrivate(m.getModifiers()));
    }
    checks.holds("the face has just the document's methods", due.equals(is) && is.size() == Calls.NAMES.length);
    for (Field f : SteadyFund.class.getDeclaredFields()) {
      boolean isConstant = List.of("NONE", "BAD", "NO", "FULL").contains(f.getName());
      checks.holds("rule 1: " + f.getName(), isConstant ? Modifier.isPublic(f.getModifiers()) : Modifier.isPrivate(f.getModifiers()));
    }
    Constructor<?>[] makers = SteadyFund.class.getDeclaredConstructors();
    checks.holds("one public constructor without arguments", makers.length == 1 && Modifier.isPublic(makers[0].getModifiers())
        && makers[0].getParameterCount() == 0);
    checks.holds("public and final", (SteadyFund.class.getModifiers() & (Modifier.PUBLIC | Modifier.FINAL)) == (Modifier.PUBLIC | Modifier.FINAL));
  }

  private static void oneClass(Class<?> c) {
    String name = c.getSimpleName();
    checks.holds("rule 2: " + name + " is static", c == SteadyFund.class || Modifier.isStatic(c.getModifiers()));
    checks.holds("rule 2: " + name + " has none inside", c == SteadyFund.class || c.getDeclaredClasses().length == 0);
    int fields = 0;
    for (Field f : c.getDeclaredFields()) {
      if (Modifier.isStatic(f.getModifiers())) checks.holds("rule 5: " + f.getName(), Modifier.isFinal(f.getModifiers()));
      else fields++;
    }
    checks.holds("rule 11: fields of " + name, fields <= 20);
    for (Method m : c.getDeclaredMethods()) {
      checks.holds("rule 11: parameters of " + m.getName(), m.getParameterCount() <= 7);
      checks.holds("rule 6: " + m.getName(), !Set.of("equals", "hashCode", "toString").contains(m.getName()));
      if (c != SteadyFund.class) checks.holds("rule 1: the name " + m.getName(), !List.of(Calls.NAMES).contains(m.getName()));
    }
  }

  private static String withoutTexts(String source) {
    return source.replaceAll("(?s)/\\*.*?\\*/", "").replaceAll("//[^\n]*", "").replaceAll("\"[^\"\n]*\"", "\"\"");
  }

  /** Rules 2, 4, 6. */
  private static void words(String code) {
    for (String word : new String[] {"throw", "throws", "try", "catch", "finally", "synchronized", "assert", "native",
        "volatile", "strictfp", "package", "protected", "var", "Exact", "System\\.(?!arraycopy)", "->", "::", "float", "double",
        "instanceof", "@", "Object", "Random", "Thread"}) {
      checks.holds("not a word of it: " + word, !Pattern.compile(Character.isLetter(word.charAt(0)) ? "\\b" + word : word).matcher(code).find());
    }
    Matcher imports = Pattern.compile("import ([^;]*);").matcher(code);
    while (imports.find()) checks.holds("import " + imports.group(1), imports.group(1).equals("java.util.Arrays"));
    checks.holds("rule 5: no static block", !Pattern.compile("static\\s*\\{").matcher(code).find());
    checks.holds("rule 2: no anonymous class", !Pattern.compile("new\\s+\\w+\\([^)]*\\)\\s*\\{").matcher(code).find());
  }

  /** Rule 11: from a line that opens a method to the one that closes it, by their indent. */
  private static void methods(String source) {
    String[] lines = source.split("\n");
    for (int i = 0; i < lines.length; i++) {
      if (!lines[i].matches(" {2,4}[a-zA-Z].*\\) \\{")) continue;
      String close = lines[i].replaceAll("\\S.*", "") + "}";
      int end = i;
      while (end < lines.length - 1 && !lines[end].equals(close)) end++;
      checks.holds("rule 11: lines of " + lines[i].trim(), end - i < 60);
    }
  }
}
