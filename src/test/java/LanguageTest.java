import java.io.IOException;
import java.lang.reflect.Field;
import java.lang.reflect.Method;
import java.lang.reflect.Modifier;
import java.nio.file.Files;
import java.nio.file.Path;
import java.util.ArrayList;
import java.util.Arrays;
import java.util.List;
import java.util.TreeSet;
import java.util.regex.Matcher;
import java.util.regex.Pattern;

/**
 * Rules of ../shared/LANGUAGE.md that can be seen from the program's text (the project's path stands in the property
 * "root") and from its classes.
 */
public final class LanguageTest {
  private static final String[] BARRED = {
    "\\b(throw|throws|try|catch|finally|synchronized|assert|package|volatile|transient|native)\\b",
    "->", "::", "\\bvar\\b", "\\bObject\\b", "\\bException\\b", "Exact\\b", "@", "\\bprotected\\b",
    "\\bSystem\\.(?!arraycopy)", "\\bMath\\.(?!(max|min|abs|floorDiv|floorMod)\\b)", "\\bArrays\\.(?!(fill|copyOf|copyOfRange)\\b)",
    "^import (?!java\\.util\\.(Arrays|ArrayList|List|Iterator);)",
  };
  private static final int MOST_CLASSES = 12;
  private static final int MOST_FIELDS = 20;
  private static final int MOST_PARAMETERS = 7;
  private static final int MOST_LINES = 60;

  private static final Check check = new Check();

  public static void main(String[] args) throws IOException {
    String text = Files.readString(Path.of(System.getProperty("root")).resolve("src/main/java/SoundWords.java"));
    String code = text.replaceAll("(?s)/\\*.*?\\*/", " ").replaceAll("//[^\n]*", " ");
    check.holds("the program is long enough to be the program", code.length() > 1000);
    nothingBarredIsWritten(code);
    methodsAreShort(code);
    List<Class<?>> classes = new ArrayList<>(Arrays.asList(SoundWords.class.getDeclaredClasses()));
    classes.add(SoundWords.class);
    check.holds("classes: " + classes.size(), classes.size() <= MOST_CLASSES);
    for (Class<?> one : classes) {
      methodsAreAsRuled(one);
      fieldsAreAsRuled(one);
    }
    check.end();
  }

  private static void nothingBarredIsWritten(String code) {
    for (String barred : BARRED) {
      Matcher found = Pattern.compile(barred, Pattern.MULTILINE).matcher(code);
      check.holds("the program has no '" + barred + "'", !found.find());
    }
  }

  /** A method begins with a line that ends with ") {" and ends with a brace as far in as it began. */
  private static void methodsAreShort(String code) {
    Matcher method = Pattern.compile("(?ms)^((?:  ){1,2})(?:\\w[^\n;=]*)\\) \\{\n.*?^\\1\\}$").matcher(code);
    int seen = 0;
    while (method.find()) {
      seen++;
      long lines = method.group().lines().count();
      check.holds(method.group().lines().findFirst().orElse("") + " has lines: " + lines, lines <= MOST_LINES);
    }
    check.holds("methods that are written: " + seen, seen > 24);
  }

  private static void methodsAreAsRuled(Class<?> one) {
    TreeSet<String> face = new TreeSet<>();
    for (Method method : SoundWords.class.getDeclaredMethods()) {
      if (Modifier.isPublic(method.getModifiers())) {
        face.add(method.getName());
      }
    }
    for (Method method : one.getDeclaredMethods()) {
      check.holds(method + " has parameters", method.getParameterCount() <= MOST_PARAMETERS);
      if (Modifier.isPrivate(method.getModifiers())) {
        check.holds(method + " has a name of its own", !face.contains(method.getName()));
      }
    }
  }

  private static void fieldsAreAsRuled(Class<?> one) {
    int fields = 0;
    for (Field field : one.getDeclaredFields()) {
      if (Modifier.isStatic(field.getModifiers())) {
        check.holds(field + " is final", Modifier.isFinal(field.getModifiers()));
      } else {
        fields++;
      }
    }
    check.holds(one + " has fields: " + fields, fields <= MOST_FIELDS);
  }
}
