import java.io.IOException;
import java.lang.reflect.Constructor;
import java.lang.reflect.Field;
import java.lang.reflect.Method;
import java.lang.reflect.Modifier;
import java.nio.file.Files;
import java.nio.file.Path;
import java.util.ArrayList;
import java.util.Arrays;
import java.util.HashSet;
import java.util.List;
import java.util.Map;
import java.util.Random;
import java.util.Set;
import java.util.TreeMap;
import java.util.TreeSet;
import java.util.regex.Matcher;
import java.util.regex.Pattern;

/** The rules of LANGUAGE.md that can be looked at from outside, and that no call ever throws. */
public final class LanguageTests {
  private static final String SOURCE = "src/main/java/SmallWindows.java", DOCUMENT = "../shared/DOC.md";
  private static final String[] FORBIDDEN = {
    "throw", "throws", "try", "catch", "finally", "synchronized", "assert", "volatile", "transient", "native", "package",
    "var", "yield", "protected", "instanceof", "System", "Object", "hashCode", "toString", "Random", "Thread", "goto"
  };

  private static final List<String> LIBRARY = List.of("Arrays.fill(", "Math.min(", "Integer.bitCount(");

  private static int wrong = 0;

  private static void check(boolean holds, String what) {
    if (!holds) {
      wrong++;
      System.out.println("not so: " + what);
    }
  }

  public static void main(String[] args) throws Exception {
    face();
    headings();
    members(SmallWindows.class);
    source();
    room();
    neverThrows();
    System.out.println(wrong == 0 ? "the class keeps to the language" : wrong + " rules are broken");
    if (wrong != 0) System.exit(1);
  }

  /** The face, as the document writes it out. */
  private static void face() throws Exception {
    Class<?> c = SmallWindows.class;
    check(c.getModifiers() == (Modifier.FINAL | Modifier.PUBLIC), "the class is public and final");
    check(c.getSuperclass() == Object.class && c.getInterfaces().length == 0, "the class stands alone");
    String text = Files.readString(Path.of(DOCUMENT));
    int from = text.indexOf("public final class SmallWindows {");
    String told = text.substring(from, text.indexOf("```", from));
    methods(c, told);
    constants(c, told);
    check(told.contains("public SmallWindows();"), "the document has a constructor without arguments");
    check(c.getDeclaredConstructors().length == 1 && c.getConstructors().length == 1, "one constructor, and it is public");
    check(c.getConstructors()[0].getParameterCount() == 0, "it takes nothing");
  }

  private static void methods(Class<?> c, String told) {
    Set<String> want = new TreeSet<>(), got = new TreeSet<>(), names = new HashSet<>();
    Matcher method = Pattern.compile("public (\\w+ \\w+)\\(([^)]*)\\);").matcher(told);
    while (method.find()) want.add(method.group(1) + "(" + method.group(2).replaceAll("(\\w+) \\w+", "$1") + ")");
    check(want.size() == 30, "the document has thirty methods");
    for (Method m : c.getDeclaredMethods()) {
      if (Modifier.isPrivate(m.getModifiers()) || m.isSynthetic()) continue;
      List<String> types = new ArrayList<>();
      for (Class<?> p : m.getParameterTypes()) types.add(p.getName());
      got.add(m.getReturnType().getName() + " " + m.getName() + "(" + String.join(", ", types) + ")");
      names.add(m.getName());
      check(m.getModifiers() == Modifier.PUBLIC, m.getName() + " is public, and no more");
    }
    check(got.equals(want), "the public methods are those of the document: " + got);
    for (Method m : c.getDeclaredMethods()) {
      check(!Modifier.isPrivate(m.getModifiers()) || !names.contains(m.getName()), "a name of the face again: " + m);
    }
    for (Class<?> inner : c.getDeclaredClasses()) {
      for (Method m : inner.getDeclaredMethods()) check(!names.contains(m.getName()), "a name of the face again: " + m);
    }
  }

  private static void constants(Class<?> c, String told) throws IllegalAccessException {
    Map<String, Integer> want = new TreeMap<>(), got = new TreeMap<>();
    Matcher constant = Pattern.compile("([A-Z]+) = (-?\\d+)").matcher(told);
    while (constant.find()) want.put(constant.group(1), Integer.valueOf(constant.group(2)));
    check(want.size() == 6, "the document has six constants");
    for (Field f : c.getDeclaredFields()) {
      if (Modifier.isPrivate(f.getModifiers())) continue;
      check(f.getModifiers() == (Modifier.PUBLIC | Modifier.STATIC | Modifier.FINAL) && f.getType() == int.class, f + " is a constant");
      got.put(f.getName(), f.getInt(null));
    }
    check(got.equals(want), "the constants are those of the document: " + got);
  }

  /** What the document has ahead of the calls stands ahead of them in the source, too. */
  private static void headings() throws IOException {
    String text = Files.readString(Path.of(DOCUMENT)), source = Files.readString(Path.of(SOURCE));
    Matcher told = Pattern.compile("Ahead of the calls (.*) the interface says: (---- .*)\\.").matcher(text);
    int found = 0;
    while (told.find()) {
      found++;
      int from = source.indexOf("// " + told.group(2) + "\n");
      check(from >= 0, "the source says " + told.group(2));
      String part = from < 0 ? "" : source.substring(from + 3, source.indexOf("// ----", from + 3));
      List<String> calls = new ArrayList<>();
      Matcher method = Pattern.compile("public int (\\w+)\\(").matcher(part);
      while (method.find()) calls.add("`" + method.group(1) + "`");
      check(String.join(", ", calls).equals(told.group(1)), "behind " + told.group(2) + " come " + told.group(1) + ", not " + calls);
    }
    check(found == 6, "the document has six parts of calls");
  }

  private static void members(Class<?> c) {
    int fields = 0;
    for (Field f : c.getDeclaredFields()) {
      boolean still = Modifier.isStatic(f.getModifiers());
      check(!still || Modifier.isFinal(f.getModifiers()), f + " is static, and final");
      fields += still ? 0 : 1;
    }
    check(fields <= 20, c + " has at most twenty fields");
    for (Method m : c.getDeclaredMethods()) check(m.getParameterCount() <= 7, m + " has at most seven parameters");
    for (Constructor<?> made : c.getDeclaredConstructors()) check(made.getParameterCount() <= 7, made + " likewise");
    Class<?>[] inner = c.getDeclaredClasses();
    check(inner.length < 12, "at most twelve classes");
    for (Class<?> k : inner) {
      check(Modifier.isStatic(k.getModifiers()), k + " is static");
      members(k);
    }
  }

  private static void source() throws IOException {
    String text = Files.readString(Path.of(SOURCE));
    for (int i = 0; i < text.length(); i++) check(text.charAt(i) < 128, "sign " + i + " is below 128");
    String code = text.replaceAll("(?s)/\\*.*?\\*/", " ").replaceAll("//[^\n]*", " ");
    for (String word : FORBIDDEN) check(!Pattern.compile("\\b" + word + "\\b").matcher(code).find(), "no word " + word);
    check(!code.contains("->") && !code.contains("::"), "no lambda, no method reference");
    check(!code.contains("/=") && !Pattern.compile("[^/]/[^/]").matcher(code).find(), "no division");
    Matcher remainder = Pattern.compile("%\\s*(\\w+)").matcher(code);
    while (remainder.find()) check(remainder.group(1).equals("MODULUS"), "a remainder by the modulus alone");
    Matcher imports = Pattern.compile("import ([\\w.*]+);").matcher(code);
    while (imports.find()) check(imports.group(1).equals("java.util.Arrays"), "imports no more than Arrays");
    Matcher library = Pattern.compile("\\b[A-Z]\\w*\\.\\w+\\(").matcher(code);
    while (library.find()) check(LIBRARY.contains(library.group()), "uses of the library what is named here: " + library.group());
    // all that a run keeps is made with the object itself
    Matcher made = Pattern.compile("\\n( *)([^\\n]*)\\bnew\\b").matcher(code);
    String field = "(private )?(final )?[\\w\\[\\]]+ \\w+ = .*";
    while (made.find()) {
      check(made.group(1).length() <= 8 && made.group(2).matches(field), "made in a field's initialiser: " + made.group());
    }
    int lines = 0;
    for (String line : code.split("\n")) {
      lines = line.matches(" {4}( {4})?}") ? 0 : lines + (line.isBlank() ? 0 : 1);
      if (line.matches(".*\\b(class|\\w+\\([^;]*\\)) ?.*\\{$") && line.matches(" {4}( {4})?\\S.*")) lines = 0;
      check(lines <= 60, "methods of at most sixty lines: " + line);
    }
  }

  private static long elements(Object o, Set<Object> seen) throws IllegalAccessException {
    if (o == null || seen.contains(o)) return 0;
    if (o.getClass().isArray()) return java.lang.reflect.Array.getLength(o);
    if (o.getClass().getName().startsWith("java.")) return 0;
    seen.add(o);
    long sum = 0;
    for (Field f : o.getClass().getDeclaredFields()) {
      if (Modifier.isStatic(f.getModifiers())) continue;
      sum++;
      if (!f.getType().isPrimitive()) {
        f.setAccessible(true);
        sum += elements(f.get(o), seen);
      }
    }
    return sum;
  }

  /** An object makes nothing after it has been made, so its own size is all that it needs. */
  private static void room() throws IllegalAccessException {
    long size = elements(new SmallWindows(), new HashSet<>());
    System.out.println("an object has " + size + " fields and elements");
    check(size < 7000, "a thousand objects have room in one run");
  }

  private static void neverThrows() throws Exception {
    Method[] methods = SmallWindows.class.getDeclaredMethods();
    Arrays.sort(methods, (a, b) -> a.getName().compareTo(b.getName()));
    for (int seed = 0; seed < 300; seed++) {
      Random random = new Random(seed);
      SmallWindows x = new SmallWindows();
      int calls = (seed % 2 == 0 ? 1 : 0) + (seed % 3 == 0 ? 256 : 0);
      if (seed % 2 == 0) x.colours(3);
      if (seed % 3 == 0) for (int block = 0; block < 256; block++) x.allow(block, random.nextInt(10) != 0);
      for (int i = 0; i < 512; i++) {
        Method m = methods[random.nextInt(methods.length)];
        if (!Modifier.isPublic(m.getModifiers()) || m.getName().equals("colours") && random.nextInt(20) != 0) continue;
        Object[] arguments = new Object[m.getParameterCount()];
        for (int k = 0; k < arguments.length; k++) arguments[k] = some(random, m.getParameterTypes()[k]);
        int answer = (Integer) m.invoke(x, arguments);
        calls++;
        // later answers are free, but they may not throw either
        check(calls > MOST_CALLS || answer >= SPENT && answer != -5, m.getName() + Arrays.toString(arguments) + " answered " + answer);
      }
    }
  }

  private static final int SPENT = SmallWindows.SPENT, MOST_CALLS = 512;

  private static Object some(Random random, Class<?> type) {
    if (type == boolean.class) return random.nextInt(5) != 0;
    if (type == long.class) return random.nextInt(3) == 0 ? random.nextLong() : random.nextLong() & 0x5555555555555555L;
    int[] far = {Integer.MIN_VALUE, Integer.MIN_VALUE + 1, -1, 255, 256, 999999999, 1000000000, 1000000001, Integer.MAX_VALUE};
    int kind = random.nextInt(8);
    return kind == 0 ? far[random.nextInt(far.length)] : kind == 1 ? random.nextInt() : random.nextInt(kind == 2 ? 256 : 6);
  }
}
