import java.io.IOException;
import java.lang.reflect.InvocationTargetException;
import java.lang.reflect.Method;
import java.nio.file.Files;
import java.nio.file.Path;
import java.util.List;
import java.util.Map;
import java.util.TreeMap;
import java.util.TreeSet;
import java.util.regex.Matcher;
import java.util.regex.Pattern;

/**
 * README.md against the class and the document (the project's path stands in the property "root"): its examples answer
 * what it says, and its tables have each call of the document, with the refusals that the document tells of it.
 */
public final class ReadmeTest {
  private static final Pattern NEW = Pattern.compile("SoundWords x = new SoundWords\\(\\);");
  private static final Pattern CALL = Pattern.compile("x\\.(\\w+)\\(([-\\d, ]*)\\); +// (-?\\d+)(:.*)?");
  private static final Pattern PROMISE = Pattern.compile("`int (\\w+)\\(([^)]*)\\)`: (.*)");
  private static final Pattern ROW = Pattern.compile("\\| `(\\w+\\([^)]*\\))` \\| (.*) \\| (.*) \\|");
  private static final Pattern REFUSAL = Pattern.compile("\\b(NONE|BAD|NOT|FULL)\\b");

  private static final Check check = new Check();

  public static void main(String[] args) throws IOException, IllegalAccessException {
    Path root = Path.of(System.getProperty("root"));
    List<String> readme = Files.readAllLines(root.resolve("README.md"));
    examplesAnswerAsTold(readme);
    tablesAreTheDocuments(readme, Files.readAllLines(root.resolve("../shared/DOC.md")));
    constantsAreTold(readme);
    testsAreTold(readme, root.resolve("src/test/java"));
    check.end();
  }

  private static void examplesAnswerAsTold(List<String> readme) throws IllegalAccessException {
    TreeSet<String> shown = new TreeSet<>();
    SoundWords x = new SoundWords();
    boolean inExample = false;
    for (String line : readme) {
      if (line.startsWith("```")) {
        inExample = line.equals("```java");
      } else if (inExample && NEW.matcher(line).matches()) {
        x = new SoundWords();
      } else if (inExample && !line.isBlank()) {
        Matcher call = CALL.matcher(line);
        check.holds("an example's line is a call with its answer: " + line, call.matches());
        if (call.matches()) {
          shown.add(call.group(1));
          check.due("README: " + line, answer(x, call.group(1), call.group(2)), Integer.parseInt(call.group(3)));
        }
      }
    }
    check.holds("the examples are found", shown.size() >= 10);
  }

  private static int answer(SoundWords x, String name, String numbers) throws IllegalAccessException {
    Object[] given = numbers.isBlank()
        ? new Object[0]
        : Pattern.compile(", *").splitAsStream(numbers).map(Integer::valueOf).toArray();
    for (Method method : SoundWords.class.getMethods()) {
      if (method.getName().equals(name) && method.getParameterCount() == given.length) {
        try {
          return (int) method.invoke(x, given);
        } catch (InvocationTargetException e) {
          throw new IllegalStateException(name + " threw", e);
        }
      }
    }
    throw new IllegalStateException("there is no call " + name + " of " + given.length);
  }

  private static void tablesAreTheDocuments(List<String> readme, List<String> document) {
    Map<String, TreeSet<String>> due = new TreeMap<>();
    for (String line : document) {
      Matcher promise = PROMISE.matcher(line);
      if (promise.matches()) {
        due.put(promise.group(1) + "(" + promise.group(2).replace("int ", "") + ")", refusals(promise.group(3)));
      }
    }
    check.due("calls that the document promises", due.size(), 24);
    Map<String, TreeSet<String>> told = new TreeMap<>();
    for (String line : readme) {
      Matcher row = ROW.matcher(line);
      if (row.matches()) {
        check.holds(row.group(1) + " has one row", told.put(row.group(1), refusals(row.group(2) + row.group(3))) == null);
      }
    }
    check.holds("calls told: " + told.keySet(), told.keySet().equals(due.keySet()));
    for (String call : due.keySet()) {
      check.holds(call + " is refused by " + due.get(call) + ", told " + told.get(call), due.get(call).equals(told.get(call)));
    }
  }

  private static TreeSet<String> refusals(String text) {
    TreeSet<String> found = new TreeSet<>();
    Matcher refusal = REFUSAL.matcher(text);
    while (refusal.find()) {
      found.add(refusal.group(1));
    }
    return found;
  }

  private static void constantsAreTold(List<String> readme) {
    String text = String.join("\n", readme);
    check.holds("NONE", text.contains("| `NONE` (" + SoundWords.NONE + ") |"));
    check.holds("BAD", text.contains("| `BAD` (" + SoundWords.BAD + ") |"));
    check.holds("NOT", text.contains("| `NOT` (" + SoundWords.NOT + ") |"));
    check.holds("FULL", text.contains("| `FULL` (" + SoundWords.FULL + ") |"));
  }

  private static void testsAreTold(List<String> readme, Path tests) throws IOException {
    String text = String.join("\n", readme);
    try (var files = Files.list(tests)) {
      for (Path file : files.toList()) {
        String name = file.getFileName().toString().replace(".java", "");
        if (name.endsWith("Test")) {
          check.holds(name + " is told", text.contains("| `" + name + "` |"));
        }
      }
    }
  }
}
