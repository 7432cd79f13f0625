import java.io.IOException;
import java.nio.file.Files;
import java.nio.file.Path;
import java.util.ArrayList;
import java.util.HashMap;
import java.util.List;
import java.util.Map;
import java.util.regex.Matcher;
import java.util.regex.Pattern;

/** The program's text against the rules of LANGUAGE.md that a text shows; FaceTest has those on its members. */
public final class LanguageTest {
  private static final Pattern OUTSIDE = Pattern.compile("\\b(import|package|interface|enum|record|extends|implements|float|double|"
      + "String|Object|Math|Integer|Long|System|Arrays|null|throw|throws|try|catch|finally|synchronized|assert|instanceof|"
      + "volatile|native|transient|var|this)\\b|->|::|\"|'|@|\\[\\]\\s*\\[");
  private static final Pattern FIELD_ARRAY = Pattern.compile("private final (\\w+)\\[\\] \\w+ = new (\\w+)\\[\\w+\\];");
  private static final Pattern HEAD = Pattern.compile("    (?:public|private) (?:static )?(?:\\w+ )?(\\w+)\\((.*)\\) \\{");
  private static final Pattern CALL = Pattern.compile("\\b(\\w+)\\(");
  private static final List<String> WORDS = List.of("if", "for", "while", "switch", "return");

  /** A method's name and the lines of its body. */
  private static Map<String, List<String>> bodies(List<String> lines) {
    Map<String, List<String>> found = new HashMap<>();
    List<String> body = null;
    for (String line : lines) {
      Matcher head = HEAD.matcher(line);
      if (head.matches()) {
        body = new ArrayList<>();
        if (found.put(head.group(1), body) != null) Check.wrong("two methods " + head.group(1));
      } else if (line.equals("    }")) {
        body = null;
      } else if (body != null) {
        body.add(line);
      }
    }
    return found;
  }

  private static List<String> calls(List<String> body) {
    List<String> found = new ArrayList<>();
    for (String line : body) {
      Matcher call = CALL.matcher(line);
      while (call.find()) if (!WORDS.contains(call.group(1))) found.add(call.group(1));
    }
    return found;
  }

  private static void nothingFromOutside(List<String> lines) {
    for (String line : lines) {
      Matcher word = OUTSIDE.matcher(line);
      if (word.find()) Check.wrong(word.group() + " in: " + line.trim());
    }
  }

  private static void arraysAreMadeOnce(List<String> lines) {
    for (String line : lines) {
      if (line.matches(".*\\bnew\\b.*") && !FIELD_ARRAY.matcher(line.trim()).matches()) Check.wrong("makes something: " + line.trim());
    }
  }

  private static void callsAreOfTheClass(Map<String, List<String>> bodies) {
    for (String name : bodies.keySet()) {
      for (String called : calls(bodies.get(name))) {
        if (!bodies.containsKey(called)) Check.wrong(name + " calls " + called + ", which is not of the class");
      }
    }
  }

  /** A call's depth is 1 more than the deepest that it makes; a ring of calls would have no depth. */
  private static int depth(Map<String, List<String>> bodies, String name, int above) {
    if (above > bodies.size()) {
      Check.wrong(name + " is called by what it calls");
      return 0;
    }
    int deepest = 0;
    for (String called : calls(bodies.getOrDefault(name, List.of()))) deepest = Math.max(deepest, depth(bodies, called, above + 1));
    return deepest + 1;
  }

  private static void callsAreNotDeep(Map<String, List<String>> bodies) {
    for (String name : bodies.keySet()) {
      int depth = depth(bodies, name, 0);
      if (depth > 6) Check.wrong(name + ": calls go " + depth + " deep");
    }
  }

  /** What stands between a call's brackets holds no call. */
  private static void noCallInsideACall(Map<String, List<String>> bodies) {
    for (String name : bodies.keySet()) {
      String text = String.join(" ", bodies.get(name));
      Matcher call = CALL.matcher(text);
      while (call.find()) {
        if (WORDS.contains(call.group(1))) continue;
        int open = 1;
        int end = call.end();
        while (open > 0) {
          char c = text.charAt(end++);
          open += c == '(' ? 1 : c == ')' ? -1 : 0;
        }
        String arguments = text.substring(call.end(), end - 1);
        if (CALL.matcher(arguments).find()) Check.wrong(name + ": a call inside " + call.group(1) + "(" + arguments + ")");
      }
    }
  }

  private static void methodsAreShort(Map<String, List<String>> bodies) {
    for (String name : bodies.keySet()) {
      int lines = bodies.get(name).size() + 2;
      if (lines > 60) Check.wrong(name + " has " + lines + " lines");
    }
  }

  public static void main(String[] args) throws IOException {
    String text = Files.readString(Path.of("src/main/java/SimplicialDesk.java"));
    List<String> lines = List.of(text.replaceAll("(?s)/\\*.*?\\*/", "").replaceAll("//[^\n]*", "").split("\n"));
    Map<String, List<String>> bodies = bodies(lines);
    Check.due("the methods are found", bodies.containsKey("SimplicialDesk") && bodies.containsKey("level"), true);
    Check.test("rules 2, 3, 4 and 6: no words from outside", () -> nothingFromOutside(lines));
    Check.test("rule 4: arrays are made in fields' initialisers", () -> arraysAreMadeOnce(lines));
    Check.test("rule 3: every call is one of the class", () -> callsAreOfTheClass(bodies));
    Check.test("rules 8 and 10: no recursion, calls at most six deep", () -> callsAreNotDeep(bodies));
    Check.test("rule 10: no call inside the arguments of another call", () -> noCallInsideACall(bodies));
    Check.test("rule 10: methods stay short", () -> methodsAreShort(bodies));
    Check.end();
  }
}
