import java.util.ArrayList;
import java.util.List;
import java.util.function.ToIntFunction;

/** Calls that together tell all of an object that can be told, some 250 a list: an object is good for 512 calls. */
final class Questions {
  private final List<String> names = new ArrayList<>();
  private final List<ToIntFunction<SoundWords>> calls = new ArrayList<>();

  private void add(String name, ToIntFunction<SoundWords> call) {
    names.add(name);
    calls.add(call);
  }

  void putTo(SoundWords called, SoundWords twin) {
    for (int i = 0; i < calls.size(); i++) {
      Cases.due("then " + names.get(i), calls.get(i).applyAsInt(called), calls.get(i).applyAsInt(twin));
    }
  }

  /** Questions that change nothing themselves. */
  static Questions thatLook() {
    Questions all = new Questions();
    for (int what = 0; what <= 4; what++) {
      int w = what;
      all.add("count " + w, x -> x.count(w));
    }
    all.lookAtLaid();
    all.lookAtRow();
    all.lookAtCounts();
    all.lookForWords();
    all.add("speech 0", x -> x.speech(0));
    all.add("speech 1", x -> x.speech(1));
    return all;
  }

  private void lookAtLaid() {
    for (int frame = 0; frame <= 40; frame++) {
      for (int what = 0; what <= 2; what++) {
        int f = frame;
        int w = what;
        add("laid " + f + ", " + w, x -> x.laid(f, w));
      }
    }
  }

  private void lookAtRow() {
    add("least", SoundWords::least);
    add("rowSize", SoundWords::rowSize);
    add("beside", SoundWords::beside);
    add("edits", SoundWords::edits);
    for (int place = 0; place <= 40; place++) {
      int i = place;
      add("rowAt " + i, x -> x.rowAt(i));
    }
  }

  private void lookAtCounts() {
    for (int sound = 0; sound < 6; sound++) {
      for (int mark = 0; mark < 8; mark++) {
        int s = sound;
        int m = mark;
        add("taught " + s + ", " + m, x -> x.taught(s, m));
      }
    }
  }

  private void lookForWords() {
    for (int word = 0; word <= 8; word++) {
      for (int what = 0; what <= 2; what++) {
        int w = word;
        int k = what;
        add("spot " + w + ", " + k, x -> x.spot(w, k));
      }
    }
  }

  /** Questions whose answers need a change: what a cost was, which teachings are kept, how the ears are set. */
  static Questions thatDig() {
    Questions all = new Questions();
    all.digForGrammar();
    all.digForCosts();
    all.digForTeachings();
    all.add("unsay", SoundWords::unsay);
    all.add("hush", SoundWords::hush);
    all.digForEars();
    return all;
  }

  private void digForGrammar() {
    for (int ahead = -1; ahead < 8; ahead++) {
      for (int behind = -1; behind < 8; behind++) {
        int a = ahead;
        int b = behind;
        add("grammar " + a + ", " + b, x -> x.grammar(a, b, 0));
      }
    }
  }

  private void digForCosts() {
    for (int sound = 0; sound < 6; sound++) {
      for (int mark = 0; mark < 8; mark++) {
        int s = sound;
        int m = mark;
        add("cost " + s + ", " + m, x -> x.cost(s, m, 25));
      }
    }
    add("stay", x -> x.stay(1));
  }

  private void digForTeachings() {
    for (int n = 1; n <= 17; n++) {
      add("unteach, time " + n, SoundWords::unteach);
    }
  }

  private void digForEars() {
    for (int mark = 1; mark <= 7; mark++) {
      int m = mark;
      add("speech of mark " + m, x -> speechOfFive(x, m));
    }
    add("hush", SoundWords::hush);
    for (int loud = 1; loud <= 5; loud++) {
      add("speech of loud frames: " + loud, x -> x.feed(7) + 100 * x.speech(0));
    }
    for (int still = 1; still <= 9; still++) {
      add("speech ahead of frames that are not loud: " + still, x -> x.feed(0) + 100 * x.speech(1));
    }
  }

  private static int speechOfFive(SoundWords x, int mark) {
    x.hush();
    for (int f = 0; f < 5; f++) {
      x.feed(mark);
    }
    return x.speech(0);
  }
}
