import java.io.IOException;
import java.lang.reflect.Method;
import java.lang.reflect.Modifier;
import java.net.URL;
import java.net.URLClassLoader;
import java.nio.file.Files;
import java.nio.file.Path;
import java.util.ArrayList;
import java.util.Comparator;
import java.util.List;
import java.util.regex.Matcher;
import java.util.regex.Pattern;
import java.util.stream.Stream;
import javax.tools.JavaCompiler;
import javax.tools.ToolProvider;

/**
 * What README.md shows as an example answers as it says: the lines of its Java blocks are made one
 * program, compiled and run. Run it in the project's folder.
 */
public final class ReadmeTest {
  private static final String OBJECT = "GrowthLimits g = new GrowthLimits();";

  /** A call of the face, kept under a name or not, and behind it the answer or the exception. */
  private static final Pattern CALL = Pattern.compile(
      "(?:int (?<name>\\w+) = )?(?<call>g\\.(?<method>\\w+)\\(.*\\)); +"
          + "// (?:throws (?<thrown>\\w+)|(?<answer>-?\\d+|true|false)): .+");

  private static int wrong = 0;

  private ReadmeTest() {
  }

  public static void main(String[] args) throws Exception {
    List<String> lines = exampleLines(Path.of("README.md"));
    StringBuilder program = new StringBuilder();
    List<String> shown = new ArrayList<>();
    for (String line : lines) {
      program.append(checkOf(line, shown)).append('\n');
    }
    mustShowWholeFace(lines, shown);
    if (wrong == 0) {
      compileAndRun(program.toString());
    }
    System.out.println(wrong == 0 ? lines.size() + " example lines of README.md answer as they say"
        : wrong + " faults in README.md");
    if (wrong != 0) {
      System.exit(1);
    }
  }

  /** The examples call this for each of their lines. */
  public static void due(String line, String got, String want) {
    if (!got.equals(want)) {
      fault(line + " answered " + got);
    }
  }

  private static void fault(String what) {
    wrong++;
    System.out.println("README.md: " + what);
  }

  private static List<String> exampleLines(Path readme) throws IOException {
    List<String> lines = new ArrayList<>();
    boolean inside = false;
    for (String line : Files.readAllLines(readme)) {
      if (line.startsWith("```")) {
        inside = line.equals("```java");
      } else if (inside && !line.isBlank()) {
        lines.add(line);
      }
    }
    return lines;
  }

  /** The line as a statement that holds the call's outcome against the one told behind it. */
  private static String checkOf(String line, List<String> shown) {
    if (line.equals(OBJECT)) {
      return line;
    }
    Matcher m = CALL.matcher(line);
    if (!m.matches()) {
      fault("an example line tells no answer: " + line);
      return "";
    }
    shown.add(m.group("method"));
    String told = "\"" + line.replace("\\", "\\\\").replace("\"", "\\\"") + "\"";
    String call = m.group("call");
    if (m.group("thrown") != null) {
      return "try { ReadmeTest.due(" + told + ", \"\" + " + call + ", \"an exception\"); }"
          + " catch (RuntimeException e) { ReadmeTest.due(" + told
          + ", e.getClass().getSimpleName(), \"" + m.group("thrown") + "\"); }";
    }
    String due = ", \"" + m.group("answer") + "\");";
    if (m.group("name") == null) {
      return "ReadmeTest.due(" + told + ", \"\" + " + call + due;
    }
    return "int " + m.group("name") + " = " + call + "; ReadmeTest.due(" + told + ", \"\" + "
        + m.group("name") + due;
  }

  private static void mustShowWholeFace(List<String> lines, List<String> shown) {
    if (!lines.contains(OBJECT)) {
      fault("no example makes an object");
    }
    for (Method method : GrowthLimits.class.getDeclaredMethods()) {
      if (Modifier.isPublic(method.getModifiers()) && !shown.contains(method.getName())) {
        fault("no example calls " + method.getName());
      }
    }
  }

  private static void compileAndRun(String statements) throws Exception {
    Path folder = Files.createTempDirectory("readme");
    try {
      Path source = folder.resolve("ReadmeExample.java");
      Files.writeString(source, "public final class ReadmeExample {\n  public static void run() {\n"
          + statements + "  }\n}\n");
      JavaCompiler compiler = ToolProvider.getSystemJavaCompiler();
      int failed = compiler.run(null, null, null, "-cp", System.getProperty("java.class.path"),
          "-d", folder.toString(), source.toString());
      if (failed != 0) {
        fault("the examples don't compile");
        return;
      }
      URL[] where = {folder.toUri().toURL()};
      try (URLClassLoader loader = new URLClassLoader(where, ReadmeTest.class.getClassLoader())) {
        loader.loadClass("ReadmeExample").getMethod("run").invoke(null);
      }
    } finally {
      removeAll(folder);
    }
  }

  private static void removeAll(Path folder) throws IOException {
    try (Stream<Path> found = Files.walk(folder)) {
      for (Path path : found.sorted(Comparator.reverseOrder()).toList()) {
        Files.delete(path);
      }
    }
  }
}
