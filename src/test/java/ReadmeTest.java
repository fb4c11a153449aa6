import java.io.IOException;
import java.lang.reflect.Method;
import java.lang.reflect.Modifier;
import java.net.URL;
import java.net.URLClassLoader;
import java.nio.file.Files;
import java.nio.file.Path;
import java.util.ArrayList;
import java.util.Comparator;
import java.util.List;
import java.util.Set;
import java.util.TreeSet;
import java.util.regex.Matcher;
import java.util.regex.Pattern;
import java.util.stream.Stream;
import javax.tools.ToolProvider;

/** What README.md shows of calls and answers: its Java is compiled as it stands, and each call is asked for its answer. */
public final class ReadmeTest {
  private static final Path README = Path.of("README.md");
  private static final Path TESTS = Path.of("src/test/java");
  private static final Pattern SHOWN = Pattern.compile(
      "bath\\.(\\w+)\\((.*)\\); +// (-?\\d+|UNKNOWN|OUTSIDE|NO|STATE|FULL|NONE|GONE \\+ OUTSIDE): \\S.*");
  private static final Pattern REFUSAL = Pattern.compile("\\| `(\\w+)` *\\| (-\\d+) +\\|.*");
  private static final List<String> REFUSALS = List.of("UNKNOWN", "OUTSIDE", "NO", "STATE", "FULL");
  private static int wrong = 0;
  private static int shown = 0;
  private static int asked = 0;

  private static void expect(boolean holds, String what) {
    if (!holds) {
      wrong++;
      System.out.println("README.md: " + what);
    }
  }

  /** Called by what is compiled from the page. */
  public static void due(String call, long got, long want) {
    asked++;
    expect(got == want, call + " answered " + got + ", shown is " + want);
  }

  private static List<List<String>> javaBlocks(List<String> page) {
    List<List<String>> blocks = new ArrayList<>();
    boolean isInside = false;
    for (String line : page) {
      if (line.startsWith("```")) {
        isInside = line.equals("```java");
        if (isInside) {
          blocks.add(new ArrayList<>());
        }
      } else if (isInside) {
        blocks.get(blocks.size() - 1).add(line);
      }
    }
    return blocks;
  }

  /** A call outside of a loop must show its answer; all else goes as it stands. */
  private static String tried(String line) {
    Matcher row = SHOWN.matcher(line);
    if (!row.matches()) {
      expect(!line.contains("//") && !line.startsWith("bath."), "no answer can be read off: " + line);
      return line;
    }
    shown++;
    String call = "bath." + row.group(1) + "(" + row.group(2) + ")";
    return "ReadmeTest.due(\"" + call + "\", " + call + ", " + row.group(3) + ");";
  }

  private static String program(List<List<String>> blocks) {
    StringBuilder text = new StringBuilder("public final class Shown {\n");
    for (String name : List.of("UNKNOWN", "OUTSIDE", "NO", "STATE", "FULL", "NONE", "GONE")) {
      text.append("private static final long " + name + " = BathBaskets." + name + ";\n");
    }
    StringBuilder all = new StringBuilder("public static void all() {\n");
    for (int i = 0; i < blocks.size(); i++) {
      text.append("private static void block" + i + "() {\n");
      blocks.get(i).forEach(line -> text.append(tried(line)).append('\n'));
      text.append("}\n");
      all.append("block" + i + "();\n");
    }
    return text.append(all).append("}\n}\n").toString();
  }

  private static void run(String program) throws IOException, ReflectiveOperationException {
    Path folder = Files.createTempDirectory("readme");
    try {
      Path source = Files.writeString(folder.resolve("Shown.java"), program);
      int code = ToolProvider.getSystemJavaCompiler().run(null, null, null, "-proc:none", "-cp",
          System.getProperty("java.class.path"), "-d", folder.toString(), source.toString());
      expect(code == 0, "its Java does not compile");
      if (code == 0) {
        try (URLClassLoader loader = new URLClassLoader(new URL[] {folder.toUri().toURL()})) {
          loader.loadClass("Shown").getMethod("all").invoke(null);
        }
      }
    } finally {
      try (Stream<Path> files = Files.walk(folder)) {
        files.sorted(Comparator.reverseOrder()).forEach(file -> file.toFile().delete());
      }
    }
  }

  private static void showsAllCalls(List<List<String>> blocks) {
    Set<String> missing = new TreeSet<>();
    for (Method method : BathBaskets.class.getDeclaredMethods()) {
      if (Modifier.isPublic(method.getModifiers())) {
        missing.add(method.getName());
      }
    }
    Set<String> refusals = new TreeSet<>(REFUSALS);
    for (List<String> block : blocks) {
      expect(block.get(0).equals("BathBaskets bath = new BathBaskets();"), "a block begins with " + block.get(0));
      for (String line : block) {
        Matcher row = SHOWN.matcher(line);
        if (row.matches()) {
          missing.remove(row.group(1));
          refusals.remove(row.group(3));
        }
      }
    }
    expect(missing.isEmpty(), "shows no answer of " + missing);
    expect(refusals.isEmpty(), "shows no call that is refused with " + refusals);
  }

  private static void tellsRefusals(List<String> page) throws ReflectiveOperationException {
    List<String> told = new ArrayList<>();
    for (String line : page) {
      Matcher row = REFUSAL.matcher(line);
      if (row.matches()) {
        told.add(row.group(1));
        int number = BathBaskets.class.getField(row.group(1)).getInt(null);
        expect(number == Integer.parseInt(row.group(2)), row.group(1) + " is " + number);
      }
    }
    expect(told.equals(REFUSALS), "refusals in the document's order: " + told);
    String text = String.join(" ", page);
    expect(text.contains("`NONE` (" + BathBaskets.NONE + ")"), "the number of NONE");
    expect(text.contains("`GONE` (" + BathBaskets.GONE + ")"), "the number of GONE");
  }

  private static void namesAllTests(List<String> page) throws IOException {
    String text = String.join("\n", page);
    try (Stream<Path> tests = Files.list(TESTS)) {
      tests.map(test -> test.getFileName().toString().replace(".java", ""))
          .forEach(name -> expect(text.contains("`" + name + "`"), name + " is not named"));
    }
    Matcher named = Pattern.compile("`(\\w+Test)`").matcher(text);
    while (named.find()) {
      expect(Files.exists(TESTS.resolve(named.group(1) + ".java")), named.group(1) + " is not there");
    }
    expect(Files.isExecutable(Path.of(".ci/run")) && text.contains("\n.ci/run\n"), "how the tests are run");
  }

  public static void main(String[] args) throws IOException, ReflectiveOperationException {
    List<String> page = Files.readAllLines(README);
    List<List<String>> blocks = javaBlocks(page);
    showsAllCalls(blocks);
    tellsRefusals(page);
    namesAllTests(page);
    run(program(blocks));
    expect(shown > 0 && asked == shown, shown + " answers are shown, " + asked + " were tried");
    System.out.println(asked + " answers shown, " + (wrong == 0 ? "all are so" : wrong + " faults"));
    if (wrong != 0) {
      System.exit(1);
    }
  }
}
