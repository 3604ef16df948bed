import java.lang.reflect.Method;
import java.lang.reflect.Modifier;
import java.net.URL;
import java.net.URLClassLoader;
import java.nio.file.Files;
import java.nio.file.Path;
import java.util.List;
import java.util.Set;
import java.util.TreeSet;
import java.util.regex.Matcher;
import java.util.regex.Pattern;
import java.util.stream.Collectors;
import java.util.stream.Stream;

/** README.md says what is so: its example is run, and the calls and the tests that it tells of are those that there are. */
public final class ReadmeTest {
  private static final Check CHECK = new Check("ReadmeTest");
  private static final Pattern ANSWER = Pattern.compile("(x\\.\\w+\\(.*\\)); *// (-?\\d+)(\\D.*)?");

  public static void main(String[] args) throws Exception {
    String readme = Files.readString(Path.of("README.md"));
    example(readme);
    calls(readme);
    lines(readme);
    tests(readme);
    CHECK.end();
  }

  private static String block(String readme, String head) {
    int begin = readme.indexOf(head);
    int end = readme.indexOf("```", begin + head.length());
    if (begin < 0 || end < 0) {
      throw new IllegalStateException("README.md has no block that begins with " + head);
    }
    return readme.substring(begin + head.length(), end);
  }

  /** The example's lines are compiled as they stand; what each call answers is set against the number behind it. */
  private static void example(String readme) throws Exception {
    StringBuilder code = new StringBuilder("public final class Example { public static long[] run() { long[] got = new long[99]; int n = 0;\n");
    StringBuilder due = new StringBuilder();
    for (String line : block(readme, "```java\n").split("\n")) {
      Matcher told = ANSWER.matcher(line);
      boolean asks = line.startsWith("x.");
      CHECK.due("the example tells the answer of " + line, told.matches(), asks);
      code.append(asks ? "got[n++] = " : "").append(line).append('\n');
      due.append(asks ? told.group(2) + "\n" : "");
    }
    Path place = Files.createTempDirectory("readme");
    Path file = Files.writeString(place.resolve("Example.java"), code + "return got; } }\n");
    String path = System.getProperty("java.class.path");
    Process compiling = new ProcessBuilder("javac", "-cp", path, "-d", place.toString(), file.toString()).inheritIO().start();
    CHECK.due("compiling the example", compiling.waitFor(), 0);
    try (URLClassLoader loader = new URLClassLoader(new URL[] {place.toUri().toURL()})) {
      long[] got = (long[]) loader.loadClass("Example").getMethod("run").invoke(null);
      String[] wanted = due.toString().split("\n");
      CHECK.due("the example has calls", wanted.length > 5, true);
      for (int i = 0; i < wanted.length; i++) {
        CHECK.due("call " + i + " of the example", got[i], Long.parseLong(wanted[i]));
      }
    }
    try (Stream<Path> made = Files.list(place)) {
      for (Path one : made.collect(Collectors.toList())) {
        Files.delete(one);
      }
    }
    Files.delete(place);
  }

  private static void calls(String readme) {
    Set<String> told = new TreeSet<>();
    Matcher call = Pattern.compile("`(\\w+)\\(([^)`]*)\\)`").matcher(readme);
    while (call.find()) {
      told.add(call.group(1) + " " + (call.group(2).isEmpty() ? 0 : call.group(2).split(",").length));
    }
    Set<String> there = new TreeSet<>();
    for (Method method : PlatePiles.class.getDeclaredMethods()) {
      if (Modifier.isPublic(method.getModifiers())) {
        there.add(method.getName() + " " + method.getParameterCount());
      }
    }
    CHECK.due("the calls told " + told + " are those that there are " + there, told.equals(there), true);
  }

  /** The lines of the table are a text. */
  private static void lines(String readme) {
    StringBuilder text = new StringBuilder();
    Matcher line = Pattern.compile("(?m)^\\| `([a-z][^`]*;)` \\|").matcher(readme);
    int lines = 0;
    while (line.find()) {
      text.append(line.group(1));
      lines++;
    }
    CHECK.due("one line of each kind", lines, 7);
    CHECK.due("the lines of the table read as a text: " + text, Check.tell(new PlatePiles(), text.toString()), lines);
  }

  private static void tests(String readme) throws Exception {
    Set<String> there = new TreeSet<>();
    try (Stream<Path> files = Files.list(Path.of("src/test/java"))) {
      for (Path file : files.collect(Collectors.toList())) {
        there.add(file.getFileName().toString().replace(".java", ""));
      }
    }
    there.remove("Check");
    Set<String> told = new TreeSet<>();
    Matcher name = Pattern.compile("`([A-Z]\\w+)`").matcher(readme.substring(readme.indexOf("## Tests"), readme.indexOf("## Inside")));
    while (name.find()) {
      told.add(name.group(1));
    }
    CHECK.due("the tests told " + told + " are those that there are " + there, told.equals(there), true);
    CHECK.due("how all are run", readme.contains("`bash .ci/run`"), true);
    List<String> run = Files.readAllLines(Path.of(".ci/run"));
    for (String part : new String[] {"src/test/java/*Test.java", "../shared/tests/*.java", "src/main/java/PlatePiles.java", "cd \"$(dirname \"$0\")/..\""}) {
      CHECK.due(".ci/run has " + part, run.stream().anyMatch(line -> line.contains(part)), true);
    }
    String one = block(readme, "```sh\n");
    CHECK.due("how one is run: " + one, one.contains("javac -d") && one.contains("src/main/java/PlatePiles.java src/test/java/*.java"), true);
  }
}
