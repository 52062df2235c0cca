import java.io.IOException;
import java.lang.reflect.Constructor;
import java.lang.reflect.Executable;
import java.lang.reflect.Field;
import java.lang.reflect.Method;
import java.lang.reflect.Modifier;
import java.nio.charset.StandardCharsets;
import java.nio.file.Files;
import java.nio.file.Path;
import java.util.ArrayList;
import java.util.List;
import java.util.Set;
import java.util.TreeSet;
import java.util.regex.Matcher;
import java.util.regex.Pattern;

/** Rules of ../shared/LANGUAGE.md, and the document's face, as far as they can be read off the class or its text. */
public final class LanguageTest {
  private static final Checks checks = new Checks("LanguageTest");
  private static final Set<String> LIBRARY_TYPES = Set.of("String", "StringBuilder", "Integer", "ArrayList", "List", "Iterator");
  private static final Set<String> IMPORTS = Set.of("java.util.Arrays", "java.util.ArrayList", "java.util.List", "java.util.Iterator");
  private static final Set<String> STATICS = Set.of("System.arraycopy", "Arrays.copyOf", "Arrays.copyOfRange", "Arrays.fill", "List.of");

  public static void main(String[] args) throws IOException {
    String source = Files.readString(Path.of("src/main/java/SteadyFund.java"), StandardCharsets.US_ASCII);
    List<Class<?>> all = new ArrayList<>(List.of(SteadyFund.class.getDeclaredClasses()));
    all.add(SteadyFund.class);
    face(Files.readString(Path.of("../shared/DOC.md"), StandardCharsets.UTF_8));
    members();
    for (Class<?> c : all) oneClass(c);
    checks.holds("rule 11: some twelve classes", all.size() <= 12);
    String code = withoutComments(source);
    joinedTexts(code);
    words(code.replaceAll("\"[^\"\n]*\"", "\"\""));
    methods(source);
    checks.end();
  }

  /** Each constant, constructor and method as the document writes it, and no other public one. */
  private static void face(String document) {
    int from = document.indexOf("public final class SteadyFund {"), to = document.indexOf("```", from);
    Set<String> due = new TreeSet<>(), is = new TreeSet<>();
    Matcher told = Pattern.compile("public (int|long) (\\w+)\\(([^)]*)\\);").matcher(document.substring(from, to));
    while (told.find()) due.add(told.group(1) + " " + told.group(2) + "(" + told.group(3).replaceAll("(\\w+) \\w+", "$1") + ")");
    for (Method m : SteadyFund.class.getDeclaredMethods()) {
      if (Modifier.isPublic(m.getModifiers())) is.add(m.getReturnType() + " " + m.getName() + "(" + typesOf(m) + ")");
    }
    checks.due("methods that the document tells", due.size(), Calls.NAMES.length);
    checks.holds("the face has just the document's methods", due.equals(is));
    Constructor<?>[] makers = SteadyFund.class.getDeclaredConstructors();
    checks.holds("one public constructor without arguments", makers.length == 1 && Modifier.isPublic(makers[0].getModifiers())
        && makers[0].getParameterCount() == 0);
    int both = Modifier.PUBLIC | Modifier.FINAL;
    checks.holds("public and final", (SteadyFund.class.getModifiers() & both) == both);
    checks.due("NONE", SteadyFund.NONE, -1);
    checks.due("BAD", SteadyFund.BAD, -2);
    checks.due("NO", SteadyFund.NO, -3);
    checks.due("FULL", SteadyFund.FULL, -4);
  }

  private static String typesOf(Executable m) {
    List<String> types = new ArrayList<>();
    for (Class<?> type : m.getParameterTypes()) types.add(type.getName());
    return String.join(", ", types);
  }

  /** Rule 1. */
  private static void members() {
    for (Method m : SteadyFund.class.getDeclaredMethods()) {
      if (!Modifier.isPublic(m.getModifiers())) {
        checks.holds("rule 1: " + m.getName() + " is private", Modifier.isPrivate(m.getModifiers()));
        checks.holds("rule 1: the name " + m.getName(), !List.of(Calls.NAMES).contains(m.getName()));
      }
    }
    for (Field f : SteadyFund.class.getDeclaredFields()) {
      boolean isConstant = List.of("NONE", "BAD", "NO", "FULL").contains(f.getName());
      checks.holds("rule 1: " + f.getName(), isConstant ? Modifier.isPublic(f.getModifiers()) : Modifier.isPrivate(f.getModifiers()));
    }
    for (Class<?> c : SteadyFund.class.getDeclaredClasses()) {
      checks.holds("rule 1: " + c.getSimpleName(), (c.getModifiers() & (Modifier.PUBLIC | Modifier.PROTECTED)) == 0);
    }
  }

  /** Rules 2, 3, 5, 6, 11. */
  private static void oneClass(Class<?> c) {
    String name = c.getSimpleName();
    checks.holds("rule 2: " + name + " is static", c == SteadyFund.class || Modifier.isStatic(c.getModifiers()));
    checks.holds("rule 2: " + name + " has none inside", c == SteadyFund.class || c.getDeclaredClasses().length == 0);
    int fields = 0;
    for (Field f : c.getDeclaredFields()) {
      checks.holds("rule 3: " + f.getName(), isAllowed(f.getType()));
      if (Modifier.isStatic(f.getModifiers())) checks.holds("rule 5: " + f.getName(), Modifier.isFinal(f.getModifiers()));
      else fields++;
    }
    checks.holds("rule 11: fields of " + name, fields <= 20);
    for (Method m : c.getDeclaredMethods()) {
      checks.holds("rule 11: parameters of " + m.getName(), m.getParameterCount() <= 7);
      checks.holds("rule 6: " + m.getName(), !Set.of("equals", "hashCode", "toString").contains(m.getName()));
      checks.holds("rule 3: " + m.getName(), isAllowed(m.getReturnType()));
      for (Class<?> type : m.getParameterTypes()) checks.holds("rule 3: " + m.getName(), isAllowed(type));
    }
  }

  private static boolean isAllowed(Class<?> type) {
    if (type.isPrimitive()) return true;
    Class<?> part = type.getComponentType();
    if (part != null) return part.isPrimitive() || isOwn(part) || part.getComponentType() != null && part.getComponentType().isPrimitive();
    return isOwn(type) || LIBRARY_TYPES.contains(type.getSimpleName());
  }

  private static boolean isOwn(Class<?> type) {
    return type == SteadyFund.class || type.getEnclosingClass() == SteadyFund.class;
  }

  private static String withoutComments(String source) {
    return source.replaceAll("(?s)/\\*.*?\\*/", "").replaceAll("//[^\n]*", "");
  }

  /** Rule 10. */
  private static void joinedTexts(String code) {
    checks.holds("rule 10: no texts joined by +", !Pattern.compile("\"\\s*\\+|\\+=?\\s*\"").matcher(code).find());
  }

  /** Rules 2, 4, 5, 6, 13. */
  private static void words(String code) {
    for (String word : new String[] {"\\bthrows?\\b", "\\btry\\b", "\\bcatch\\b", "\\bsynchronized\\b", "\\bassert\\b",
        "\\bpackage\\b", "\\bprotected\\b", "Exact\\b", "::", "static\\s*\\{", "\\.getClass\\b", "\\bObject\\b",
        "\\b(Thread|Random|File|Instant|Date|Class|Runtime)\\b", "new\\s+\\w+\\([^)]*\\)\\s*\\{"}) {
      checks.holds("not in it: " + word, !Pattern.compile(word).matcher(code).find());
    }
    checks.holds("rule 2: no lambda", !Pattern.compile("->").matcher(code.replaceAll("(case [^;{}]*?|default) ->", "")).find());
    Matcher imports = Pattern.compile("import ([^;]*);").matcher(code);
    while (imports.find()) checks.holds("rule 4: import " + imports.group(1), IMPORTS.contains(imports.group(1)));
    Matcher calls = Pattern.compile("\\b(System|Arrays|List)\\.(\\w+)").matcher(code.replaceAll("import [^;]*;", ""));
    while (calls.find()) checks.holds("rule 4: " + calls.group(), STATICS.contains(calls.group()));
  }

  /** Rule 11: from a line that opens a method to the one that closes it, by their indent. */
  private static void methods(String source) {
    String[] lines = source.split("\n");
    for (int i = 0; i < lines.length; i++) {
      if (!lines[i].matches(" {2,4}[a-zA-Z].*\\) \\{")) continue;
      String close = lines[i].replaceAll("\\S.*", "") + "}";
      int end = i;
      while (end < lines.length - 1 && !lines[end].equals(close)) end++;
      checks.holds("rule 11: lines of " + lines[i].trim(), end - i < 60);
    }
  }
}
