import java.lang.reflect.Constructor;
import java.lang.reflect.Field;
import java.lang.reflect.Method;
import java.lang.reflect.Modifier;
import java.nio.file.Files;
import java.nio.file.Path;
import java.util.Set;
import java.util.TreeSet;
import java.util.regex.Matcher;
import java.util.regex.Pattern;

/** The public face of the document, and what of LANGUAGE.md can be seen from outside or from the words used. */
final class FaceTest {
  private static final String[] FACE = {
      "int type(int)", "int wipe()", "int undo()", "int fault()", "int acrobat(int,int)", "int event(int,int,int)",
      "int back()", "int read(int)", "int at(int,int,int)", "int stands(int,int)", "int tower(int,int)", "int sum(int)",
      "int top(int)", "int most(int)", "int clumsy()", "int down()", "int swap(int)", "int come(int,int)",
      "int train(int)", "int spare(int)", "int seen(int,int,int)", "int forget()", "int never()", "int was(int,int)",
      "int ask(int)", "long chance(int,int,int)", "int years(int,int,int)", "int sheet(int,int,int)", "int lose(int)",
      "int put(int,int,int,int)", "int get(int,int,int)", "int copy(int,int,int,int,int)", "int write(int,int)",
      "int count(int)", "long digest()"};

  public static void main(String[] args) throws Exception {
    methods();
    fields();
    classesInside();
    String source = Files.readString(Path.of("src/main/java/HumanPyramid.java"));
    signs(source);
    String code = source.replaceAll("(?s)/\\*.*?\\*/", "").replaceAll("//[^\n]*", "");
    words(code);
    library(code);
    lengths(source);
    Due.end();
  }

  private static String told(Method m) {
    StringBuilder s = new StringBuilder(m.getReturnType().getName()).append(' ').append(m.getName()).append('(');
    for (Class<?> p : m.getParameterTypes()) {
      s.append(s.charAt(s.length() - 1) == '(' ? "" : ",").append(p.getName());
    }
    return s.append(')').toString();
  }

  private static void methods() {
    Set<String> found = new TreeSet<>();
    Set<String> names = new TreeSet<>();
    for (Method m : HumanPyramid.class.getDeclaredMethods()) {
      if (Modifier.isPublic(m.getModifiers())) {
        found.add(told(m));
        names.add(m.getName());
        Due.holds(m + " is no static method", !Modifier.isStatic(m.getModifiers()));
      }
    }
    Due.holds("the methods are " + found, found.equals(new TreeSet<>(Set.of(FACE))));
    for (Method m : HumanPyramid.class.getDeclaredMethods()) {
      if (!Modifier.isPublic(m.getModifiers())) {
        Due.holds(m + " is private", Modifier.isPrivate(m.getModifiers()));
        Due.holds(m + " bears no name of the face", !names.contains(m.getName()));
      }
    }
    for (Class<?> inside : HumanPyramid.class.getDeclaredClasses()) {
      for (Method m : inside.getDeclaredMethods()) {
        Due.holds(m + " bears no name of the face", !names.contains(m.getName()));
        Due.holds(m + " takes seven at most", m.getParameterCount() <= 7);
      }
    }
    Constructor<?>[] made = HumanPyramid.class.getDeclaredConstructors();
    Due.due("constructors", made.length, 1);
    Due.holds("it is public", Modifier.isPublic(made[0].getModifiers()) && made[0].getParameterCount() == 0);
    int is = HumanPyramid.class.getModifiers();
    Due.holds("public and final", Modifier.isPublic(is) && Modifier.isFinal(is));
  }

  private static void fields() {
    Set<String> open = new TreeSet<>();
    for (Field f : HumanPyramid.class.getDeclaredFields()) {
      if (!Modifier.isPrivate(f.getModifiers())) {
        open.add(f.getName());
      }
      if (Modifier.isStatic(f.getModifiers())) {
        Due.holds(f + " is final", Modifier.isFinal(f.getModifiers()));
      }
    }
    Due.holds("the constants are " + open, open.equals(new TreeSet<>(Set.of("NONE", "BAD", "NOT", "FULL"))));
  }

  private static void classesInside() {
    Due.holds("twelve classes at most", HumanPyramid.class.getDeclaredClasses().length <= 11);
    for (Class<?> inside : HumanPyramid.class.getDeclaredClasses()) {
      int is = inside.getModifiers();
      int own = 0;
      for (Field f : inside.getDeclaredFields()) {
        own += Modifier.isStatic(f.getModifiers()) ? 0 : 1;
      }
      Due.holds(inside + " has some twenty fields at most", own <= 20);
      Due.holds(inside + " is static", Modifier.isStatic(is));
      Due.holds(inside + " is not open", !Modifier.isPublic(is) && !Modifier.isProtected(is));
    }
  }

  private static void words(String code) {
    String[] never = {"\\bthrows?\\b", "\\btry\\b", "\\bcatch\\b", "\\bsynchronized\\b", "\\bassert\\b", "\\bpackage\\b",
        "Exact\\b", "\\bequals\\b", "\\bhashCode\\b", "\\btoString\\b", "\\bObject\\b", "\\bSystem\\.(?!arraycopy)",
        "->", "::", "\\bstatic \\{"};
    for (String word : never) {
      Due.holds("no " + word, !Pattern.compile(word).matcher(code).find());
    }
    Matcher m = Pattern.compile("import ([^;]*);").matcher(code);
    while (m.find()) {
      Due.holds("import " + m.group(1), m.group(1).equals("java.util.Arrays"));
    }
  }

  private static void signs(String source) {
    for (int i = 0; i < source.length(); i++) {
      if (source.charAt(i) > 127) {
        Due.due("a sign beyond 127 at " + i, source.charAt(i), 0);
      }
    }
  }

  /** Of the library's classes only functions are listed, no constant such as Integer.MIN_VALUE. */
  private static void library(String code) {
    Pattern used = Pattern.compile("\\b(Integer|Long|Short|Byte|Character|Boolean|Math|Arrays|System|String)\\.(\\w+)(\\(?)");
    Matcher m = used.matcher(code);
    while (m.find()) {
      String name = m.group(1) + "." + m.group(2);
      boolean isNumbers = m.group(1).matches("Integer|Long|Math") && m.group(3).equals("(");
      boolean isListed = Set.of("Arrays.copyOf", "Arrays.copyOfRange", "Arrays.fill", "System.arraycopy").contains(name);
      Due.holds(name + " stands in rule 4", isNumbers || isListed);
    }
  }

  /** A method begins on a line that ends with an opening brace, and ends with a closing one as far in. */
  private static void lengths(String source) {
    String[] lines = source.split("\n");
    Pattern begins = Pattern.compile("^( {4}| {8})(?!private static final class)[\\w\\[\\]][\\w\\[\\] ]*\\(.*\\) \\{$");
    int methods = 0;
    for (int i = 0; i < lines.length; i++) {
      Matcher m = begins.matcher(lines[i]);
      if (!m.matches() || lines[i].trim().matches("(if|for|while|switch) .*")) {
        continue;
      }
      methods++;
      int end = i;
      while (end < lines.length && !lines[end].equals(m.group(1) + "}")) {
        end++;
      }
      Due.holds(lines[i].trim() + " has sixty lines at most", end - i <= 60);
    }
    Due.holds("methods were found: " + methods, methods > 36);
  }
}
