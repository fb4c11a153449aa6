import java.io.IOException;
import java.lang.reflect.Field;
import java.lang.reflect.Member;
import java.lang.reflect.Method;
import java.lang.reflect.Modifier;
import java.nio.charset.StandardCharsets;
import java.nio.file.Files;
import java.nio.file.Path;
import java.util.ArrayList;
import java.util.Arrays;
import java.util.List;
import java.util.Set;
import java.util.TreeSet;
import java.util.regex.Matcher;
import java.util.regex.Pattern;

/** The document's face, and the rules of LANGUAGE.md that can be read off the class and its source. */
public final class LanguageTest {
  private static final Path SOURCE = Path.of("src/main/java/BathBaskets.java");
  private static final String[] CALLS = {
      "int basket(int,int,int)", "int right()", "int clock(int,int)", "int attendant(int,int,int)", "int say(int)",
      "int wipe()", "int fault()", "int judge(int)", "int behind(int,int)", "int his(int)", "int wrong(int)",
      "int done()", "int round(int,int)", "int show(int,int)", "int owners(int,int)", "int towels(int,int)",
      "int found(int,int)", "int forget()", "int fits(int)", "int ask(int)", "int piles(int,int,int)",
      "long lengths(int,int,int,int,int)", "int year(int,int,int)", "int image(int)", "int restore(int)",
      "int told(int)"};
  private static int wrong = 0;

  private static void expect(boolean holds, String rule) {
    if (!holds) {
      wrong++;
      System.out.println("broken: " + rule);
    }
  }

  private static boolean isPrivate(Member member) {
    return Modifier.isPrivate(member.getModifiers()) || member.isSynthetic();
  }

  private static void face() throws ReflectiveOperationException {
    Class<?> c = BathBaskets.class;
    expect(c.getModifiers() == (Modifier.PUBLIC | Modifier.FINAL), "1: the class is public and final");
    expect(c.getDeclaredConstructors().length == 1 && c.getConstructors().length == 1, "1: one constructor, public");
    Set<String> calls = new TreeSet<>();
    Set<String> names = new TreeSet<>();
    for (Method m : c.getDeclaredMethods()) {
      if (!isPrivate(m)) {
        expect(m.getModifiers() == Modifier.PUBLIC, "1: " + m + " is public alone");
        calls.add(m.toString().replaceAll("public |BathBaskets\\.", ""));
        names.add(m.getName());
      }
    }
    expect(calls.equals(new TreeSet<>(Arrays.asList(CALLS))), "1: the calls are those of the face: " + calls);
    String[] constants = {"UNKNOWN", "OUTSIDE", "STATE", "FULL", "NO", "NONE"};
    for (int i = 0; i < constants.length; i++) {
      expect(c.getField(constants[i]).getInt(null) == -1 - i, "the constant " + constants[i]);
    }
    expect(c.getField("GONE").getLong(null) == -1000000000000000000L, "the constant GONE");
    expect(c.getFields().length == 7, "1: no other public field");
    inside(c, names);
    for (Class<?> d : c.getDeclaredClasses()) {
      int m = d.getModifiers();
      expect(Modifier.isStatic(m) && !Modifier.isPublic(m) && !Modifier.isProtected(m), "1: " + d + " is inside");
      inside(d, names);
    }
    expect(c.getDeclaredClasses().length <= 11, "11: some twelve classes");
  }

  private static void inside(Class<?> c, Set<String> publicNames) {
    int fields = 0;
    for (Field f : c.getDeclaredFields()) {
      boolean isStatic = Modifier.isStatic(f.getModifiers());
      expect(!isStatic || Modifier.isFinal(f.getModifiers()), "5: " + f + " is final");
      expect(c != BathBaskets.class || isPrivate(f) || Modifier.isPublic(f.getModifiers()), "1: " + f + " is private");
      fields += isStatic ? 0 : 1;
    }
    expect(fields <= 20, "11: some twenty fields in " + c);
    for (Method m : c.getDeclaredMethods()) {
      boolean isOfFace = c == BathBaskets.class && Modifier.isPublic(m.getModifiers());
      expect(isOfFace || !publicNames.contains(m.getName()), "1: " + m + " bears no public name");
      expect(m.getParameterCount() <= 7, "11: " + m + " takes seven parameters at the most");
    }
  }

  private static void words(String code) {
    String[] forbidden = {"throw", "throws", "try", "catch", "synchronized", "assert", "package", "import", "native",
        "volatile", "transient", "strictfp", "var", "double", "float", "Object", "String", "equals", "hashCode",
        "toString", "instanceof", "goto", "Thread", "Random", "File"};
    for (String word : forbidden) {
      expect(!Pattern.compile("\\b" + word + "\\b").matcher(code).find(), "4, 6, 13: no " + word);
    }
    expect(!code.contains("->") && !code.contains("::"), "2: no lambda, no method reference");
    expect(!Pattern.compile("static\\s*\\{").matcher(code).find(), "5: no static initialiser");
    expect(!Pattern.compile("while\\s*\\(true|for\\s*\\([^;]*;\\s*;").matcher(code).find(), "9: every loop has an end");
    Matcher library = Pattern.compile("\\b(Math|Integer|Long|System|Arrays)\\.(\\w+)").matcher(code);
    Set<String> allowed = Set.of("Math.abs", "Math.min", "Math.max", "Math.floorDiv", "Math.floorMod",
        "Integer.bitCount", "System.arraycopy");
    while (library.find()) {
      expect(allowed.contains(library.group()), "4: the library has " + library.group());
    }
    expect(code.chars().allMatch(sign -> sign == '\n' || sign >= 32 && sign < 127), "4: signs 1 to 127");
  }

  /** Only fields make objects: then no call makes any, and a run's room is that of its objects. */
  private static void room(String code) {
    for (String line : code.split("\n")) {
      boolean isField = line.matches("\\s+(private )?final [\\w\\[\\]]+ \\w+ = new [^;]+;\\s*");
      expect(!line.matches(".*\\bnew\\b.*") || isField, "12: made by a field alone: " + line.trim());
    }
  }

  private static void lengths(List<String> lines) {
    for (int i = 0; i < lines.size(); i++) {
      Matcher start = Pattern.compile("^((?: {4}){1,2})(?!.*\\bclass\\b)\\w.*\\(.*").matcher(lines.get(i));
      if (start.matches() && !lines.get(i).trim().endsWith(";")) {
        int end = i;
        while (end < lines.size() && !lines.get(end).equals(start.group(1) + "}")) {
          end++;
        }
        expect(end - i < 60, "11: some sixty lines: " + lines.get(i).trim());
      }
    }
  }

  public static void main(String[] args) throws IOException, ReflectiveOperationException {
    String source = Files.readString(SOURCE, StandardCharsets.US_ASCII);
    String code = source.replaceAll("(?s)/\\*.*?\\*/", "").replaceAll("//[^\n]*", "");
    face();
    words(code);
    room(code);
    lengths(new ArrayList<>(Arrays.asList(code.split("\n"))));
    System.out.println(wrong == 0 ? "all rules are kept" : wrong + " rules are broken");
    if (wrong != 0) {
      System.exit(1);
    }
  }
}
