import java.io.IOException;
import java.lang.reflect.Field;
import java.lang.reflect.Method;
import java.lang.reflect.Modifier;
import java.nio.file.Files;
import java.nio.file.Path;
import java.util.ArrayList;
import java.util.List;
import java.util.Set;
import java.util.TreeSet;
import java.util.regex.Matcher;
import java.util.regex.Pattern;
import java.util.stream.Stream;

/** That what README.md says of the class, of the tests and of .ci/run is so. */
public final class ReadmeTests {
  private static final Path README = Path.of("README.md"), SCRIPT = Path.of(".ci/run"), TESTS = Path.of("src/test/java");
  private static final Pattern CALL = Pattern.compile("x\\.(\\w+)\\(([^)]*)\\);\\s+// (-?\\w+): \\S.*");

  private static int checked = 0;
  private static int wrong = 0;

  private static void check(boolean holds, String what) {
    checked++;
    if (!holds) {
      wrong++;
      System.out.println("not so: " + what);
    }
  }

  public static void main(String[] args) throws Exception {
    String text = Files.readString(README);
    example(block(text, "java"));
    names(text);
    files(text);
    script();
    System.out.println(checked + " sayings of the README looked at, " + wrong + " are not so");
    if (wrong != 0) System.exit(1);
  }

  private static String block(String text, String language) {
    Matcher found = Pattern.compile("(?s)```" + language + "\n(.*?)```").matcher(text);
    boolean is = found.find();
    check(is, "the README has an example in " + language);
    return is ? found.group(1) : "";
  }

  // ---- the example

  /** Each line is a call with the answer that it names, so none stands there unasked. */
  private static void example(String code) throws ReflectiveOperationException {
    SmallWindows x = null;
    Set<String> asked = new TreeSet<>();
    int calls = 0;
    for (String line : code.split("\n")) {
      if (line.isBlank() || line.startsWith("//")) continue;
      if (line.equals("SmallWindows x = new SmallWindows();")) {
        x = new SmallWindows();
        continue;
      }
      Matcher call = CALL.matcher(line);
      boolean is = call.matches() && x != null;
      check(is, "a line of the example is a call with an answer: " + line);
      if (!is) continue;
      calls++;
      asked.add(call.group(1));
      int got = ask(x, call.group(1), call.group(2));
      check(got == number(call.group(3)), "the example's " + line + " (it answered " + got + ")");
    }
    check(calls <= 512, "the example makes at most 512 calls");
    for (Method m : SmallWindows.class.getDeclaredMethods()) {
      boolean isPublic = Modifier.isPublic(m.getModifiers());
      check(!isPublic || asked.contains(m.getName()), "the example shows " + m.getName());
    }
  }

  private static int ask(SmallWindows x, String name, String list) throws ReflectiveOperationException {
    String[] words = list.isBlank() ? new String[0] : list.split(", ");
    for (Method m : SmallWindows.class.getMethods()) {
      if (!m.getName().equals(name) || m.getParameterCount() != words.length) continue;
      Object[] values = new Object[words.length];
      for (int i = 0; i < words.length; i++) values[i] = value(m.getParameterTypes()[i], words[i]);
      return (Integer) m.invoke(x, values);
    }
    return Integer.MIN_VALUE;
  }

  private static Object value(Class<?> type, String word) {
    if (type == boolean.class) return Boolean.valueOf(word);
    if (type == long.class) return Long.valueOf(word);
    return Integer.valueOf(word);
  }

  private static int number(String word) throws ReflectiveOperationException {
    return word.matches("-?\\d+") ? Integer.parseInt(word) : SmallWindows.class.getField(word).getInt(null);
  }

  // ---- names and files

  private static void names(String text) throws ReflectiveOperationException {
    Set<String> told = new TreeSet<>();
    Matcher name = Pattern.compile("`([A-Z]+)` \\((-?\\d+)").matcher(text);
    while (name.find()) {
      told.add(name.group(1));
      check(number(name.group(1)) == Integer.parseInt(name.group(2)), name.group(1) + " is " + name.group(2));
    }
    for (Field f : SmallWindows.class.getFields()) check(told.contains(f.getName()), "it tells " + f.getName());
  }

  private static void files(String text) throws IOException {
    Set<String> told = new TreeSet<>();
    Matcher test = Pattern.compile("(?m)^- `(\\w+)`:").matcher(text);
    while (test.find()) told.add(test.group(1) + ".java");
    Set<String> there = new TreeSet<>();
    try (Stream<Path> list = Files.list(TESTS)) {
      list.forEach(file -> there.add(file.getFileName().toString()));
    }
    check(told.equals(there), "it tells the tests that there are: " + told + ", " + there);
    Matcher path = Pattern.compile("`((?:\\.\\./|\\.ci/|src/)[\\w./]*|\\w+\\.md)`").matcher(text);
    while (path.find()) check(Files.exists(Path.of(path.group(1))), path.group(1) + " is there");
    for (String word : block(text, "sh").split("\\s+")) {
      check(!word.startsWith("src/") || Files.exists(Path.of(word)), word + " is there");
    }
  }

  // ---- when .ci/run fails

  private static final String GOOD = "new SmallWindows();", BAD = "System.exit(1);", THROWS = "throw new IllegalStateException();";

  private static void script() throws Exception {
    check(Files.isExecutable(SCRIPT), SCRIPT + " is executable");
    check(passes(GOOD, GOOD), "it passes if all tests pass");
    check(!passes(BAD, GOOD), "it fails if a test of the project fails");
    check(!passes(GOOD, BAD), "it fails if a test under ../shared/tests fails");
    check(!passes(THROWS, GOOD), "it fails if a test throws");
    check(!passes(GOOD, "no java"), "it fails if a test does not compile");
    check(!passes(null, GOOD), "it fails if the project has no tests");
    check(!passes(GOOD, null), "it fails if there are no tests under ../shared/tests");
  }

  /** Whether .ci/run passes in a tree of its own; each folder has one test more, which passes and is run last. */
  private static boolean passes(String own, String shared) throws Exception {
    Path root = Files.createTempDirectory("readme");
    try {
      write(root.resolve("main/src/main/java/SmallWindows.java"), "public final class SmallWindows { }");
      Path script = root.resolve("main/.ci/run");
      Files.createDirectories(script.getParent());
      Files.copy(SCRIPT, script);
      lay(root.resolve("main/src/test/java"), own);
      lay(root.resolve("shared/tests"), shared);
      Process process = new ProcessBuilder("bash", script.toString()).redirectErrorStream(true)
          .redirectOutput(root.resolve("told").toFile()).start();
      return process.waitFor() == 0;
    } finally {
      wipe(root);
    }
  }

  private static void lay(Path folder, String body) throws IOException {
    Files.createDirectories(folder);
    if (body == null) return;
    write(folder.resolve("First.java"), test("First", body));
    write(folder.resolve("Last.java"), test("Last", GOOD));
  }

  private static String test(String name, String body) {
    return "public final class " + name + " { public static void main(String[] args) { " + body + " } }";
  }

  private static void write(Path file, String text) throws IOException {
    Files.createDirectories(file.getParent());
    Files.writeString(file, text);
  }

  private static void wipe(Path root) throws IOException {
    List<Path> all = new ArrayList<>();
    try (Stream<Path> tree = Files.walk(root)) {
      tree.forEach(all::add);
    }
    for (int i = all.size() - 1; i >= 0; i--) Files.delete(all.get(i));
  }
}
