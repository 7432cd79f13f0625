import java.io.IOException;
import java.lang.reflect.InvocationTargetException;
import java.lang.reflect.Method;
import java.lang.reflect.Modifier;
import java.nio.file.Files;
import java.nio.file.Path;
import java.util.List;
import java.util.regex.Matcher;
import java.util.regex.Pattern;

/** README.md: each call of its example is answered as the comment beside it says, and no call of the face is left out. */
public final class ReadmeTest {
  private static final Pattern CALL = Pattern.compile("desk\\.(\\w+)\\(([-0-9, ]+)\\); +// (-?\\d+|true|false): .+");
  private static final Pattern TOLD = Pattern.compile("\\| `(\\w+)\\(([a-z, ]+)\\)` \\| .+ \\|");

  private static void example(List<String> lines) {
    SimplicialDesk desk = new SimplicialDesk();
    int calls = 0;
    for (String line : lines) {
      Matcher call = CALL.matcher(line);
      if (call.matches()) {
        calls++;
        String answer = answer(desk, call.group(1), call.group(2).split(", "));
        if (!answer.equals(call.group(3))) Check.wrong(line + " answered " + answer);
      } else if (line.startsWith("desk.")) {
        Check.wrong(line + " is not told as a call with its answer");
      }
    }
    Check.due("the example has calls", calls > 0, true);
  }

  private static String answer(SimplicialDesk desk, String name, String[] words) {
    Object[] arguments = new Object[words.length];
    for (int i = 0; i < words.length; i++) arguments[i] = Integer.valueOf(words[i]);
    for (Method method : SimplicialDesk.class.getMethods()) {
      if (method.getName().equals(name) && method.getParameterCount() == arguments.length) {
        try {
          return String.valueOf(method.invoke(desk, arguments));
        } catch (IllegalAccessException | InvocationTargetException failed) {
          return failed.toString();
        }
      }
    }
    return "nothing: there is no such call";
  }

  private static void everyCallIsTold(List<String> lines) {
    for (Method method : SimplicialDesk.class.getDeclaredMethods()) {
      if (!Modifier.isPublic(method.getModifiers())) continue;
      int rows = 0;
      for (String line : lines) {
        Matcher row = TOLD.matcher(line);
        if (row.matches() && row.group(1).equals(method.getName())) {
          rows++;
          Check.due(line + ": parameters", row.group(2).split(", ").length, method.getParameterCount());
        }
      }
      Check.due("rows that tell " + method.getName(), rows, 1);
    }
  }

  private static void everyTestIsTold(String text) throws IOException {
    for (String place : new String[] {"src/test/java", "src/test/support"}) {
      try (var files = Files.list(Path.of(place))) {
        for (Path file : files.toList()) {
          String name = file.getFileName().toString().replace(".java", "");
          Check.due("README tells " + name, text.contains("`" + name + "`"), true);
        }
      }
    }
    Check.due("README tells .ci/run", text.contains(".ci/run"), true);
  }

  public static void main(String[] args) throws IOException {
    List<String> lines = Files.readAllLines(Path.of("README.md"));
    Check.test("README.md says how to use the class: its example", () -> example(lines));
    Check.test("README.md says how to use the class: each call", () -> everyCallIsTold(lines));
    Check.test("README.md says how to run the tests", () -> {
      try {
        everyTestIsTold(String.join("\n", lines));
      } catch (IOException failed) {
        Check.wrong(failed.toString());
      }
    });
    Check.end();
  }
}
