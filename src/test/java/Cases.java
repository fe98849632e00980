import java.lang.reflect.InvocationTargetException;
import java.lang.reflect.Method;
import java.util.ArrayList;
import java.util.Comparator;
import java.util.List;
import java.util.function.Supplier;
import java.util.function.ToIntFunction;

/**
 * Runs named cases: each static method of a class whose name is promiseNN_call_whatIsTheCase. A wrong answer is told
 * with the name of its case.
 */
final class Cases {
  static final int NONE = -1, BAD = -2, NOT = -3, FULL = -4;
  static final int LOW = Integer.MIN_VALUE, HIGH = Integer.MAX_VALUE;

  private static final Check check = new Check();
  private static String running = "";

  private Cases() {}

  /** Runs all cases of a class, and sees that each of the promises it is for has one. */
  static void run(Class<?> cases, int firstPromise, int lastPromise) throws IllegalAccessException {
    int[] casesOf = new int[lastPromise + 1];
    int ran = 0;
    for (Method method : casesIn(cases)) {
      int promise = Integer.parseInt(method.getName().substring(7, 9));
      check.holds(method.getName() + " stands in its file", promise >= firstPromise && promise <= lastPromise);
      casesOf[Math.min(promise, lastPromise)]++;
      ran++;
      runOne(method);
    }
    for (int promise = firstPromise; promise <= lastPromise; promise++) {
      check.holds("promise " + promise + " has cases", casesOf[promise] > 0);
    }
    System.out.println(ran + " cases of promises " + firstPromise + " to " + lastPromise);
    check.end();
  }

  private static List<Method> casesIn(Class<?> cases) {
    List<Method> found = new ArrayList<>();
    for (Method method : cases.getDeclaredMethods()) {
      if (method.getName().matches("promise\\d\\d_.*")) {
        found.add(method);
      }
    }
    found.sort(Comparator.comparing(Method::getName));
    return found;
  }

  private static void runOne(Method method) throws IllegalAccessException {
    running = method.getName();
    int asked = check.asked();
    try {
      method.invoke(null);
    } catch (InvocationTargetException e) {
      check.holds(running + " ended with " + e.getCause(), false);
    }
    check.holds(running + " asks something", check.asked() > asked);
  }

  static void due(String what, int got, int want) {
    check.due(running + ": " + what, got, want);
  }

  /** A refused call answers so, and behind it the object answers all questions as one that was not called. */
  static void refused(Supplier<SoundWords> state, int want, ToIntFunction<SoundWords> call) {
    due("it is refused", call.applyAsInt(state.get()), want);
    changesNothing(state, call);
  }

  /** Behind the call the object answers all questions as its twin, which was not called. */
  static void changesNothing(Supplier<SoundWords> state, ToIntFunction<SoundWords> call) {
    for (Questions questions : List.of(Questions.thatLook(), Questions.thatDig())) {
      SoundWords called = state.get();
      SoundWords twin = state.get();
      call.applyAsInt(called);
      questions.putTo(called, twin);
    }
  }

  /** The call is not refused, and nothing is LAID behind it; the state must have something LAID. */
  static void endsWhatIsLaid(Supplier<SoundWords> state, ToIntFunction<SoundWords> call) {
    SoundWords x = state.get();
    due("something is laid ahead of it", x.count(4), 1);
    int answer = call.applyAsInt(x);
    check.holds(running + ": it is not refused", answer != BAD && answer != NOT && answer != FULL);
    due("count(4)", x.count(4), 0);
    due("laid(0, 0)", x.laid(0, 0), x.count(0) == 0 ? BAD : NOT);
    due("teach()", x.teach(), NOT);
  }

  /** Behind the call each frame is LAID as it was. */
  static void keepsWhatIsLaid(Supplier<SoundWords> state, ToIntFunction<SoundWords> call) {
    SoundWords called = state.get();
    SoundWords twin = state.get();
    call.applyAsInt(called);
    due("count(4)", called.count(4), 1);
    for (int f = 0; f < twin.count(0); f++) {
      for (int what = 0; what <= 2; what++) {
        due("laid(" + f + ", " + what + ")", called.laid(f, what), twin.laid(f, what));
      }
    }
  }
}
