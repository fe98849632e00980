import java.lang.reflect.Constructor;
import java.lang.reflect.Field;
import java.lang.reflect.Method;
import java.lang.reflect.Modifier;
import java.util.Arrays;
import java.util.Map;
import java.util.TreeMap;
import java.util.TreeSet;

/** The public face: the document's constants, constructor and methods, and no other member that can be seen. */
public final class FaceTest {
  private static final Check check = new Check();

  public static void main(String[] args) {
    classIsAsWritten();
    constantsAreAsWritten();
    methodsAreAsWritten();
    nothingIsSharedBetweenObjects();
    check.end();
  }

  private static void classIsAsWritten() {
    int modifiers = SoundWords.class.getModifiers();
    check.holds("the class is public", Modifier.isPublic(modifiers));
    check.holds("the class is final", Modifier.isFinal(modifiers));
    Constructor<?>[] constructors = SoundWords.class.getDeclaredConstructors();
    check.due("constructors", constructors.length, 1);
    check.holds("the constructor is public", Modifier.isPublic(constructors[0].getModifiers()));
    check.due("the constructor's parameters", constructors[0].getParameterCount(), 0);
    for (Class<?> inside : SoundWords.class.getDeclaredClasses()) {
      check.holds(inside.getName() + " is static", Modifier.isStatic(inside.getModifiers()));
      check.holds(inside.getName() + " is not public", !Modifier.isPublic(inside.getModifiers()));
    }
  }

  private static void constantsAreAsWritten() {
    check.due("NONE", SoundWords.NONE, -1);
    check.due("BAD", SoundWords.BAD, -2);
    check.due("NOT", SoundWords.NOT, -3);
    check.due("FULL", SoundWords.FULL, -4);
    TreeSet<String> seen = new TreeSet<>();
    for (Field field : SoundWords.class.getDeclaredFields()) {
      if (!Modifier.isPrivate(field.getModifiers())) {
        seen.add(field.getName());
      }
      if (Modifier.isStatic(field.getModifiers())) {
        check.holds(field.getName() + " is final", Modifier.isFinal(field.getModifiers()));
      }
    }
    check.holds("constants: " + seen, seen.equals(new TreeSet<>(Arrays.asList("NONE", "BAD", "NOT", "FULL"))));
  }

  private static void methodsAreAsWritten() {
    Map<String, Integer> parameters = new TreeMap<>();
    for (String name : "hush least rowSize beside unsay lay edits teach unteach renew".split(" ")) {
      parameters.put(name, 0);
    }
    for (String name : "feed stay rowAt say speech count".split(" ")) {
      parameters.put(name, 1);
    }
    for (String name : "laid taught spot".split(" ")) {
      parameters.put(name, 2);
    }
    for (String name : "cost grammar ears".split(" ")) {
      parameters.put(name, 3);
    }
    parameters.put("word", 4);
    parameters.put("way", 5);
    check.due("methods that the document has", parameters.size(), 24);
    int seen = 0;
    for (Method method : SoundWords.class.getDeclaredMethods()) {
      boolean isPrivate = Modifier.isPrivate(method.getModifiers());
      check.holds(method + " is public or has another name", isPrivate != parameters.containsKey(method.getName()));
      if (!isPrivate) {
        seen++;
        check.holds(method + " is public", Modifier.isPublic(method.getModifiers()));
        check.holds(method + " answers int", method.getReturnType() == int.class);
        check.due(method + " parameters", method.getParameterCount(), parameters.getOrDefault(method.getName(), -1));
        for (Class<?> type : method.getParameterTypes()) {
          check.holds(method + " takes int", type == int.class);
        }
        check.holds(method + " is not static", !Modifier.isStatic(method.getModifiers()));
        check.due(method + " declares exceptions", method.getExceptionTypes().length, 0);
      }
    }
    check.due("methods that can be seen", seen, parameters.size());
  }

  private static void nothingIsSharedBetweenObjects() {
    SoundWords one = new SoundWords();
    SoundWords other = new SoundWords();
    one.feed(3);
    one.word(1, -1, -1, -1);
    one.cost(1, 3, 4);
    one.stay(7);
    check.due("other.count(0)", other.count(0), 0);
    check.due("other.count(1)", other.count(1), 0);
    check.due("other.cost(1, 3, 0)", other.cost(1, 3, 0), 25);
    check.due("other.stay(0)", other.stay(0), 1);
    check.due("one.least()", one.least(), 4);
  }
}
