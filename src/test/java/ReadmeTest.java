import java.io.File;
import java.net.URL;
import java.net.URLClassLoader;
import java.nio.file.Files;
import java.nio.file.Path;
import java.util.ArrayList;
import java.util.List;
import java.util.regex.Matcher;
import java.util.regex.Pattern;
import javax.tools.ToolProvider;

// The examples of README.md: its java blocks, in order, become one program; a line 'x.call(..);  // N'
// must answer N there. And README.md tells each REFUSAL.
// Run from the project's root, as .ci/run does.
public final class ReadmeTest {
  private static final Pattern ANSWERED = Pattern.compile("^([a-z]\\.(\\w+)\\(.*\\));\\s+// (-?\\d+)(:.*)?$");
  private static int answers = 0;
  private static int wrong = 0;

  public static void due(String call, long got, long want) {
    answers++;
    if (got != want) {
      wrong++;
      System.out.println("README.md: " + call + " answered " + got + ", it says " + want);
    }
  }

  public static void main(String[] args) throws Exception {
    List<String> readme = Files.readAllLines(Path.of("README.md"));
    run(program(readme));
    tellsRefusals(String.join("\n", readme));
    System.out.println(answers + " answers, " + wrong + " not as README.md says");
    if (wrong != 0 || answers < 40) System.exit(1);
  }

  private static String program(List<String> readme) {
    StringBuilder b = new StringBuilder("public final class ReadmeProgram {\n  public static void go() {\n");
    boolean code = false;
    for (String line : readme) {
      if (line.startsWith("```")) code = line.equals("```java");
      else if (code) b.append(statement(line)).append("\n");
    }
    return b.append("  }\n}\n").toString();
  }

  private static String statement(String line) {
    Matcher m = ANSWERED.matcher(line);
    if (!m.matches()) return line;
    return "ReadmeTest.due(\"" + m.group(1).replace("\"", "\\\"") + "\", " + m.group(1) + ", " + m.group(3) + ");";
  }

  private static void run(String program) throws Exception {
    Path made = Files.createTempDirectory("readme");
    Path source = made.resolve("ReadmeProgram.java");
    Files.writeString(source, program);
    int failed = ToolProvider.getSystemJavaCompiler().run(null, null, null,
        "-cp", System.getProperty("java.class.path"), "-d", made.toString(), source.toString());
    if (failed != 0) {
      wrong++;
    } else {
      try (URLClassLoader loader = new URLClassLoader(new URL[] {made.toUri().toURL()})) {
        loader.loadClass("ReadmeProgram").getMethod("go").invoke(null);
      }
    }
    for (File left : made.toFile().listFiles()) left.delete();
    made.toFile().delete();
  }

  private static void tellsRefusals(String readme) {
    List<String> missing = new ArrayList<>();
    for (int number = 1; number <= 7; number++) {
      if (!readme.contains("| -" + number + " | ") || !readme.contains("`status(1" + number + ")`")) missing.add("-" + number);
    }
    for (String how : new String[] {"new CommitPrefixes()", "y.read(0);", "bash .ci/run"}) {
      if (!readme.contains(how)) missing.add(how);
    }
    if (!missing.isEmpty()) {
      wrong++;
      System.out.println("README.md doesn't tell of " + missing);
    }
  }
}
