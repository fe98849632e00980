import java.util.ArrayList;
import java.util.Arrays;
import java.util.List;
import java.util.Random;

/**
 * Short rows of frames, of which every reading is written down as the document tells it (a word, a way and a sound for
 * each frame), and the best are picked from the list afterwards. Shares no thought with the program's way to find them.
 */
public final class EveryReadingTest {
  private static final Check check = new Check();

  /** What one reading says of a frame. */
  record Part(int place, int way, int k, int sound) {}

  record Reading(int cost, List<Integer> row, List<Part> parts) {}

  private final Random random;
  private final SoundWords x = new SoundWords();
  private final List<Integer> frames = new ArrayList<>();
  private final int[][] costs = new int[6][8];
  private final List<List<int[]>> words = new ArrayList<>();
  private final int[][] grammar = new int[5][5];
  private int stay;
  private List<Reading> readings = new ArrayList<>();

  private EveryReadingTest(int seed) {
    random = new Random(seed);
    makeCosts();
    makeWords();
    makeGrammar();
    makeFrames();
  }

  public static void main(String[] args) {
    for (int seed = 0; seed < 3000 && check.isRight(); seed++) {
      EveryReadingTest test = new EveryReadingTest(seed);
      test.readAll();
      test.checkTheRow("seed " + seed);
      test.checkLaid("seed " + seed);
    }
    check.end();
  }

  private void makeCosts() {
    int most = 1 + random.nextInt(3);
    for (int sound = 0; sound < 6; sound++) {
      for (int mark = 0; mark < 8; mark++) {
        costs[sound][mark] = random.nextInt(most + 1);
        x.cost(sound, mark, costs[sound][mark]);
      }
    }
    stay = random.nextInt(3);
    x.stay(stay);
  }

  private int[] someSounds() {
    int[] sounds = {-1, -1, -1, -1};
    int length = 1 + random.nextInt(random.nextInt(4) + 1);
    for (int k = 0; k < length; k++) {
      sounds[k] = random.nextInt(3);
    }
    return sounds;
  }

  private void makeWords() {
    int size = 1 + random.nextInt(3);
    for (int w = 0; w < size; w++) {
      int[] s = someSounds();
      x.word(s[0], s[1], s[2], s[3]);
      words.add(new ArrayList<>());
      words.get(w).add(s);
      if (random.nextBoolean()) {
        int[] t = someSounds();
        x.way(w, t[0], t[1], t[2], t[3]);
        words.get(w).add(t);
      }
    }
  }

  private void makeGrammar() {
    for (int a = -1; a < words.size(); a++) {
      for (int b = a == -1 ? 0 : -1; b < words.size(); b++) {
        int v = random.nextInt(6) == 0 ? -1 : random.nextInt(3) / 2;
        grammar[a + 1][b + 1] = v;
        x.grammar(a, b, v);
      }
    }
  }

  private void makeFrames() {
    int size = 1 + random.nextInt(6);
    for (int f = 0; f < size; f++) {
      int mark = random.nextInt(7) == 0 ? -1 : random.nextInt(3);
      frames.add(mark);
      x.feed(mark);
    }
  }

  private void readAll() {
    for (int w = 0; w < words.size(); w++) {
      for (int way = 0; way < words.get(w).size(); way++) {
        extend(new ArrayList<>(List.of(w)), new ArrayList<>(List.of(new Part(0, way, 0, words.get(w).get(way)[0]))));
      }
    }
  }

  /** Writes down every reading that begins with these parts. */
  private void extend(List<Integer> row, List<Part> parts) {
    Part last = parts.get(parts.size() - 1);
    int[] sounds = words.get(row.get(last.place)).get(last.way);
    boolean wordMayEnd = last.k == 3 || sounds[last.k + 1] == -1;
    if (parts.size() == frames.size()) {
      if (wordMayEnd && priceOf(row, parts) >= 0) {
        readings.add(new Reading(priceOf(row, parts), List.copyOf(row), List.copyOf(parts)));
      }
      return;
    }
    extendBy(row, parts, last);
    if (!wordMayEnd) {
      extendBy(row, parts, new Part(last.place, last.way, last.k + 1, sounds[last.k + 1]));
      return;
    }
    for (int w = 0; w < words.size(); w++) {
      row.add(w);
      for (int way = 0; way < words.get(w).size(); way++) {
        extendBy(row, parts, new Part(last.place + 1, way, 0, words.get(w).get(way)[0]));
      }
      row.remove(row.size() - 1);
    }
  }

  private void extendBy(List<Integer> row, List<Part> parts, Part part) {
    parts.add(part);
    extend(row, parts);
    parts.remove(parts.size() - 1);
  }

  /** What a reading costs; -1: it is barred. */
  private int priceOf(List<Integer> row, List<Part> parts) {
    int price = 0;
    for (int i = 0; i <= row.size(); i++) {
      int v = grammar[i == 0 ? 0 : row.get(i - 1) + 1][i == row.size() ? 0 : row.get(i) + 1];
      if (v == -1) {
        return -1;
      }
      price += v;
    }
    for (int f = 0; f < parts.size(); f++) {
      price += frames.get(f) == -1 ? 10 : costs[parts.get(f).sound][frames.get(f)];
      price += f > 0 && parts.get(f).equals(parts.get(f - 1)) ? stay : 0;
    }
    return price;
  }

  private static int compare(List<Integer> a, List<Integer> b) {
    return Arrays.compare(a.stream().mapToInt(v -> v).toArray(), b.stream().mapToInt(v -> v).toArray());
  }

  private void checkTheRow(String name) {
    Reading best = null;
    for (Reading r : readings) {
      if (best == null || r.cost < best.cost || (r.cost == best.cost && compare(r.row, best.row) < 0)) {
        best = r;
      }
    }
    check.due(name + ": least", x.least(), best == null ? -3 : best.cost);
    check.due(name + ": rowSize", x.rowSize(), best == null ? -3 : best.row.size());
    if (best == null) {
      check.due(name + ": beside", x.beside(), -3);
      return;
    }
    int beside = -1;
    for (Reading r : readings) {
      if (!r.row.get(0).equals(best.row.get(0)) && (beside == -1 || r.cost < beside)) {
        beside = r.cost;
      }
    }
    check.due(name + ": beside", x.beside(), beside);
    for (int i = 0; i < best.row.size(); i++) {
      check.due(name + ": rowAt " + i, x.rowAt(i), best.row.get(i));
    }
  }

  /** The list by which a reading of the told row goes ahead of others: beginnings and ways, in their order. */
  private static List<Integer> orderOf(List<Part> parts) {
    List<Integer> order = new ArrayList<>();
    for (int f = 0; f < parts.size(); f++) {
      Part part = parts.get(f);
      if (f == 0 || !part.equals(parts.get(f - 1))) {
        order.add(f);
        if (part.k == 0) {
          order.add(part.way);
        }
      }
    }
    return order;
  }

  private void checkLaid(String name) {
    List<Integer> row = new ArrayList<>();
    if (!readings.isEmpty() && random.nextInt(4) != 0) {
      row.addAll(readings.get(random.nextInt(readings.size())).row);
    } else {
      for (int i = random.nextInt(4); i > 0; i--) {
        row.add(random.nextInt(words.size()));
      }
    }
    row.forEach(x::say);
    Reading best = null;
    for (Reading r : readings) {
      if (!r.row.equals(row)) {
        continue;
      }
      if (best == null || r.cost < best.cost
          || (r.cost == best.cost && compare(orderOf(r.parts), orderOf(best.parts)) < 0)) {
        best = r;
      }
    }
    check.due(name + ": lay", x.lay(), best == null ? -3 : best.cost);
    for (int f = 0; f < frames.size(); f++) {
      check.due(name + ": laid sound", x.laid(f, 0), best == null ? -3 : best.parts.get(f).sound);
      check.due(name + ": laid place", x.laid(f, 1), best == null ? -3 : best.parts.get(f).place);
      check.due(name + ": laid way", x.laid(f, 2), best == null ? -3 : best.parts.get(f).way);
    }
  }
}
