import java.nio.file.Files;
import java.nio.file.Path;
import java.util.regex.Matcher;
import java.util.regex.Pattern;

/** The words that ../shared/LANGUAGE.md bars from the program (its path stands in the property "source"). */
public final class LanguageTest {
  private static final String[] BARRED = {
    "\\b(throw|throws|try|catch|finally|synchronized|assert|package|volatile|transient|native)\\b",
    "->", "::", "\\bvar\\b", "\\bObject\\b", "\\bException\\b", "Exact\\b", "@", "\\bprotected\\b",
    "\\bSystem\\.(?!arraycopy)", "\\bMath\\.(?!(max|min|abs|floorDiv|floorMod)\\b)", "\\bArrays\\.(?!(fill|copyOf|copyOfRange)\\b)",
    "^import (?!java\\.util\\.(Arrays|ArrayList|List|Iterator);)",
  };

  public static void main(String[] args) throws Exception {
    Check check = new Check();
    String text = Files.readString(Path.of(System.getProperty("source")));
    String code = text.replaceAll("(?s)/\\*.*?\\*/", " ").replaceAll("//[^\n]*", " ");
    for (String barred : BARRED) {
      Matcher found = Pattern.compile(barred, Pattern.MULTILINE).matcher(code);
      check.holds("the program has no '" + barred + "'", !found.find());
    }
    check.holds("the program is long enough to be the program", code.length() > 1000);
    check.end();
  }
}
