import java.io.File;
import java.lang.reflect.Method;
import java.lang.reflect.Modifier;
import java.net.URL;
import java.net.URLClassLoader;
import java.nio.file.Files;
import java.nio.file.Path;
import java.util.ArrayList;
import java.util.List;
import java.util.Set;
import java.util.TreeSet;
import java.util.regex.Matcher;
import java.util.regex.Pattern;
import javax.tools.ToolProvider;

/** What README.md says, tried: its example, the calls, answers and tests that it names. */
final class ReadmeTest {
  private static final Pattern ANSWERED = Pattern.compile("^(x\\..*\\)); +// (-?\\d+): .*$");

  public static void main(String[] args) throws Exception {
    String readme = Files.readString(Path.of("README.md"));
    example(readme);
    calls(readme);
    refusals(readme);
    tests(readme);
    Due.end();
  }

  /** The example as it stands there, but that each answer is kept. */
  private static void example(String readme) throws Exception {
    Matcher block = Pattern.compile("(?s)```java\n(.*?)```").matcher(readme);
    Due.holds("README.md has an example", block.find());
    StringBuilder source = new StringBuilder("public class ReadmeExample { public static void run(java.util.List<Long> got) {\n");
    List<String> said = new ArrayList<>();
    List<Long> due = new ArrayList<>();
    for (String line : block.group(1).split("\n")) {
      Matcher answered = ANSWERED.matcher(line);
      if (answered.matches()) {
        said.add(answered.group(1));
        due.add(Long.parseLong(answered.group(2)));
        source.append("got.add((long) ").append(answered.group(1)).append(");\n");
      } else {
        Due.holds("an answer stands behind " + line, !line.startsWith("x."));
        source.append(line).append('\n');
      }
    }
    List<Long> got = new ArrayList<>();
    run(source.append("}}").toString(), got);
    Due.due("answers in the example", got.size(), due.size());
    for (int i = 0; i < due.size(); i++) {
      Due.due("README.md: " + said.get(i), got.get(i), due.get(i));
    }
  }

  private static void run(String source, List<Long> got) throws Exception {
    Path folder = Files.createTempDirectory("readme");
    Path file = folder.resolve("ReadmeExample.java");
    Path made = folder.resolve("ReadmeExample.class");
    Files.writeString(file, source);
    String classes = System.getProperty("java.class.path");
    int failed = ToolProvider.getSystemJavaCompiler().run(null, null, null, "-cp", classes, "-d", folder.toString(), file.toString());
    Due.due("the example compiles", failed, 0);
    try (URLClassLoader loader = new URLClassLoader(new URL[] {folder.toUri().toURL()}, ReadmeTest.class.getClassLoader())) {
      loader.loadClass("ReadmeExample").getMethod("run", List.class).invoke(null, got);
    } finally {
      Files.deleteIfExists(made);
      Files.deleteIfExists(file);
      Files.deleteIfExists(folder);
    }
  }

  private static void calls(String readme) {
    Set<String> named = new TreeSet<>();
    Matcher row = Pattern.compile("(?m)^- [a-z, ]+: (`[a-z`, ]+`)$").matcher(readme);
    while (row.find()) {
      for (String name : row.group(1).split(", ")) {
        named.add(name.replace("`", ""));
      }
    }
    Set<String> there = new TreeSet<>();
    for (Method m : HumanPyramid.class.getDeclaredMethods()) {
      if (Modifier.isPublic(m.getModifiers())) {
        there.add(m.getName());
      }
    }
    Due.holds("README.md names the calls " + there + ", not " + named, named.equals(there));
  }

  private static void refusals(String readme) {
    HumanPyramid x = new HumanPyramid();
    x.sheet(0, 0, 2);
    x.sheet(1, 1, 2);
    refusal(readme, x.type(-1), "`BAD`");
    refusal(readme, x.undo(), "`NOT`");
    for (int i = 0; i < 59; i++) {
      x.type('s');
    }
    refusal(readme, x.type('s'), "`FULL`");
    refusal(readme, x.lose(3), "NULL");
    refusal(readme, x.put(0, 0, 2, 0), "INDEX");
    refusal(readme, x.put(0, 1, 0, 0), "CAST");
    refusal(readme, x.copy(0, 0, 1, 0, 1), "STORE");
    refusal(readme, x.sheet(0, 0, -1), "SIZE");
    Due.due("README.md: the least int, of get", x.get(0, 0, 2), Integer.MIN_VALUE);
    Due.due("README.md: the least long and 2, of chance", x.chance(17, 0, 0), Long.MIN_VALUE + 2);
  }

  private static void refusal(String readme, int answer, String name) {
    Due.holds("README.md tells " + answer + " " + name, readme.contains("| " + answer + " " + name + " |"));
  }

  /** Each test of the project stands in the table, and each that stands there is a test. */
  private static void tests(String readme) {
    Set<String> named = new TreeSet<>();
    Matcher row = Pattern.compile("(?m)^\\| (\\w+Test) \\|").matcher(readme);
    while (row.find()) {
      named.add(row.group(1));
    }
    Set<String> there = new TreeSet<>();
    int promises = 0;
    for (String name : new File("src/test/java").list()) {
      if (name.matches("Promise\\d\\d\\w+Test\\.java")) {
        promises++;
      } else if (name.endsWith("Test.java")) {
        there.add(name.replace(".java", ""));
      }
    }
    Due.holds("README.md names the tests " + there + ", not " + named, named.equals(there));
    Due.due("tests of a promise", promises, 36);
    for (String name : new String[] {"Promise01NewTest", "Promise18SwapTest", "Promise36DigestTest"}) {
      Due.holds(name + " is there", readme.contains(name) && new File("src/test/java", name + ".java").isFile());
    }
  }
}
