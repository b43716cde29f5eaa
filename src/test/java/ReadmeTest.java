import java.io.IOException;
import java.lang.reflect.Method;
import java.nio.file.Files;
import java.nio.file.Path;
import java.util.Arrays;
import java.util.List;
import java.util.regex.Matcher;
import java.util.regex.Pattern;

/** README.md: its example answers as it says there, and it tells of every call and every test. */
public final class ReadmeTest {
  private static final Checks checks = new Checks("ReadmeTest");
  private static final Pattern CALL = Pattern.compile("x\\.(\\w+)\\((.*)\\);(?: *// (?:rule )?([-\\w]+).*)?");

  public static void main(String[] args) throws ReflectiveOperationException, IOException {
    List<String> lines = Files.readAllLines(Path.of("README.md"));
    example(lines);
    everyCall(lines);
    everyTest(String.join("\n", lines));
    checks.end();
  }

  private static void example(List<String> lines) throws ReflectiveOperationException {
    checks.says("README.md says how to use the class");
    NulledForest x = new NulledForest();
    int held = 0;
    for (String line : lines) {
      Matcher call = CALL.matcher(line);
      if (call.matches()) {
        String answer = answer(x, call.group(1), call.group(2));
        boolean told = call.group(3) != null;
        checks.due(line + " (answered " + answer + ")", !told || answer.equals(call.group(3)), true);
        held += told ? 1 : 0;
      }
    }
    checks.due("whether the example tells answers", held >= 12, true);
  }

  private static String answer(NulledForest x, String name, String written) throws ReflectiveOperationException {
    Object[] values = written.isEmpty() ? new Object[0]
        : Arrays.stream(written.split(", ")).map(Integer::valueOf).toArray();
    Class<?>[] types = new Class<?>[values.length];
    Arrays.fill(types, int.class);
    return String.valueOf(NulledForest.class.getMethod(name, types).invoke(x, values));
  }

  private static void everyCall(List<String> lines) {
    checks.says("each call with its arguments, its answers and its refusals");
    for (Method call : NulledForest.class.getDeclaredMethods()) {
      String begin = "| `" + call.getReturnType() + " " + call.getName() + "(";
      boolean told = lines.stream().anyMatch(line -> line.startsWith(begin) && line.split("\\|").length == 5);
      boolean seen = java.lang.reflect.Modifier.isPublic(call.getModifiers());
      checks.due("whether README.md tells of " + call.getName(), told, seen);
    }
  }

  private static void everyTest(String readme) throws IOException {
    checks.says("README.md says how to run its tests");
    checks.due("whether it tells of .ci/run", readme.contains(".ci/run"), true);
    try (var files = Files.list(Path.of("src/test/java"))) {
      for (Path file : files.sorted().toList()) {
        String name = file.getFileName().toString().replace(".java", "");
        checks.due("whether README.md tells of " + name, readme.contains("`" + name + "`"), true);
      }
    }
  }
}
