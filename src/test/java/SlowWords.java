import java.util.ArrayList;
import java.util.HashMap;
import java.util.List;
import java.util.Map;

/**
 * The document told once more, without regard to speed: every choice is tried, the cheapest is taken, and of several
 * the one whose choices, written down as a list, come first. Keeps nothing between calls but what the document keeps.
 */
final class SlowWords {
  static final int NONE = -1, BAD = -2, NOT = -3, FULL = -4;

  /** What a reading costs, and the list by which it goes ahead of others that cost the same. */
  record Choice(int cost, List<Integer> list) {
    boolean isAheadOf(Choice other) {
      if (other == null || cost != other.cost) {
        return other == null || cost < other.cost;
      }
      for (int i = 0; i < list.size() && i < other.list.size(); i++) {
        if (!list.get(i).equals(other.list.get(i))) {
          return list.get(i) < other.list.get(i);
        }
      }
      return list.size() < other.list.size();
    }

    Choice behind(int moreCost, Integer... ahead) {
      List<Integer> longer = new ArrayList<>(List.of(ahead));
      longer.addAll(list);
      return new Choice(cost + moreCost, longer);
    }
  }

  record Laid(int sound, int place, int way) {}

  private final List<Integer> frames = new ArrayList<>();
  private final int[][] costs = new int[6][8];
  private int stay = 1;
  private final List<List<List<Integer>>> words = new ArrayList<>();
  private final Map<List<Integer>, Integer> grammar = new HashMap<>();
  private final List<Integer> told = new ArrayList<>();
  private List<Laid> laid = null;
  private final int[][] counts = new int[6][8];
  private final List<List<int[]>> teachings = new ArrayList<>();
  private int level = 1, rise = 2, fall = 3;
  private Map<List<Integer>, Choice> known = new HashMap<>();
  private Map<List<Integer>, Integer> knownCosts = new HashMap<>();

  SlowWords() {
    for (int[] row : costs) {
      java.util.Arrays.fill(row, 25);
    }
  }

  private static boolean in(int v, int low, int high) {
    return low <= v && v <= high;
  }

  int feed(int mark) {
    if (!in(mark, -1, 7)) return BAD;
    if (frames.size() == 40) return FULL;
    laid = null;
    frames.add(mark);
    return frames.size();
  }

  int hush() {
    int were = frames.size();
    laid = null;
    frames.clear();
    return were;
  }

  int cost(int sound, int mark, int v) {
    if (!in(sound, 0, 5) || !in(mark, 0, 7) || !in(v, 0, 50)) return BAD;
    laid = null;
    int was = costs[sound][mark];
    costs[sound][mark] = v;
    return was;
  }

  int stay(int v) {
    if (!in(v, 0, 20)) return BAD;
    laid = null;
    int was = stay;
    stay = v;
    return was;
  }

  private static List<Integer> wayOf(int... sounds) {
    List<Integer> way = new ArrayList<>();
    boolean ended = false;
    for (int sound : sounds) {
      if (!in(sound, -1, 5) || (ended && sound != -1)) return null;
      if (sound == -1) ended = true;
      else way.add(sound);
    }
    return way.isEmpty() ? null : way;
  }

  int word(int a, int b, int c, int d) {
    List<Integer> way = wayOf(a, b, c, d);
    if (way == null) return BAD;
    if (words.size() == 8) return FULL;
    laid = null;
    words.add(new ArrayList<>(List.of(way)));
    return words.size() - 1;
  }

  int way(int word, int a, int b, int c, int d) {
    List<Integer> way = wayOf(a, b, c, d);
    if (way == null || !in(word, 0, words.size() - 1)) return BAD;
    if (words.get(word).size() == 2) return FULL;
    laid = null;
    words.get(word).add(way);
    return 1;
  }

  int grammar(int a, int b, int v) {
    if (!in(a, -1, words.size() - 1) || !in(b, -1, words.size() - 1) || (a == -1 && b == -1) || !in(v, -1, 100)) return BAD;
    laid = null;
    int was = grammarOf(a, b);
    grammar.put(List.of(a, b), v);
    return was;
  }

  private int grammarOf(int a, int b) {
    return grammar.getOrDefault(List.of(a, b), 0);
  }

  private int heardAs(int sound, int from, int to) {
    int cost = stay * (to - from - 1);
    for (int f = from; f < to; f++) {
      cost += frames.get(f) == -1 ? 10 : costs[sound][frames.get(f)];
    }
    return cost;
  }

  /** The cheapest of frames from .. to - 1 as the sounds of a way behind its first k; -1: not to be had. */
  private int saidAs(int word, int way, int k, int from, int to) {
    List<Integer> sounds = words.get(word).get(way);
    if (k == sounds.size()) return from == to ? 0 : -1;
    List<Integer> key = List.of(word, way, k, from, to);
    Integer have = knownCosts.get(key);
    if (have != null) return have;
    int best = -1;
    for (int next = from + 1; next <= to; next++) {
      int rest = saidAs(word, way, k + 1, next, to);
      if (rest >= 0) {
        int cost = heardAs(sounds.get(k), from, next) + rest;
        if (best < 0 || cost < best) best = cost;
      }
    }
    knownCosts.put(key, best);
    return best;
  }

  private int saidAs(int word, int from, int to) {
    int best = -1;
    for (int way = 0; way < words.get(word).size(); way++) {
      int cost = saidAs(word, way, 0, from, to);
      if (cost >= 0 && (best < 0 || cost < best)) best = cost;
    }
    return best;
  }

  /** The cheapest, first row for the frames from .. behind a word (-1: the beginning), not beginning with another. */
  private Choice rowBehind(int word, int from, int shunned) {
    if (from == frames.size()) {
      return word == -1 || grammarOf(word, -1) == -1 ? null : new Choice(grammarOf(word, -1), List.of());
    }
    List<Integer> key = List.of(word, from, shunned);
    if (known.containsKey(key)) return known.get(key);
    Choice best = null;
    for (int next = 0; next < words.size(); next++) {
      if (next == shunned || grammarOf(word, next) == -1) continue;
      for (int to = from + 1; to <= frames.size(); to++) {
        int cost = saidAs(next, from, to);
        Choice rest = cost < 0 ? null : rowBehind(next, to, -1);
        if (rest == null) continue;
        Choice choice = rest.behind(cost + grammarOf(word, next), next);
        if (choice.isAheadOf(best)) best = choice;
      }
    }
    known.put(key, best);
    return best;
  }

  private Choice theRow(int shunned) {
    known = new HashMap<>();
    knownCosts = new HashMap<>();
    return rowBehind(-1, 0, shunned);
  }

  int least() {
    Choice row = theRow(-1);
    return row == null ? NOT : row.cost;
  }

  int rowSize() {
    Choice row = theRow(-1);
    return row == null ? NOT : row.list.size();
  }

  int rowAt(int i) {
    Choice row = theRow(-1);
    if (row == null) return NOT;
    return in(i, 0, row.list.size() - 1) ? row.list.get(i) : BAD;
  }

  int beside() {
    Choice row = theRow(-1);
    if (row == null) return NOT;
    Choice other = theRow(row.list.get(0));
    return other == null ? NONE : other.cost;
  }

  int say(int word) {
    if (!in(word, 0, words.size() - 1)) return BAD;
    if (told.size() == 12) return FULL;
    laid = null;
    told.add(word);
    return told.size();
  }

  int unsay() {
    int had = told.size();
    laid = null;
    told.clear();
    return had;
  }

  /** Lays a sound of the told row from a frame on; the list is where each next sound begins, and each next way. */
  private Choice layFrom(int place, int way, int k, int from) {
    if (from >= frames.size()) return null;
    List<Integer> key = List.of(place, way, k, from);
    if (known.containsKey(key)) return known.get(key);
    int word = told.get(place);
    List<Integer> sounds = words.get(word).get(way);
    Choice best = null;
    for (int next = from + 1; next <= frames.size(); next++) {
      Choice rest = k + 1 < sounds.size() ? layFrom(place, way, k + 1, next) : layPlace(place + 1, next);
      if (rest == null) continue;
      Choice choice = rest.behind(heardAs(sounds.get(k), from, next), next);
      if (choice.isAheadOf(best)) best = choice;
    }
    known.put(key, best);
    return best;
  }

  private Choice layPlace(int place, int from) {
    int ahead = place == 0 ? -1 : told.get(place - 1);
    int word = place == told.size() ? -1 : told.get(place);
    int joint = grammarOf(ahead, word);
    if (joint == -1) return null;
    if (word == -1) return from == frames.size() ? new Choice(joint, List.of()) : null;
    Choice best = null;
    for (int way = 0; way < words.get(word).size(); way++) {
      Choice choice = layFrom(place, way, 0, from);
      if (choice == null) continue;
      choice = choice.behind(joint, way);
      if (choice.isAheadOf(best)) best = choice;
    }
    return best;
  }

  int lay() {
    known = new HashMap<>();
    laid = null;
    Choice choice = told.isEmpty() ? null : layPlace(0, 0);
    if (choice == null) return NOT;
    laid = new ArrayList<>();
    int at = 0;
    for (int place = 0; place < told.size(); place++) {
      int way = choice.list.get(at++);
      for (int sound : words.get(told.get(place)).get(way)) {
        int next = choice.list.get(at++);
        while (laid.size() < next) laid.add(new Laid(sound, place, way));
      }
    }
    return choice.cost;
  }

  int laid(int f, int what) {
    if (!in(f, 0, frames.size() - 1) || !in(what, 0, 2)) return BAD;
    if (laid == null) return NOT;
    Laid at = laid.get(f);
    return what == 0 ? at.sound : what == 1 ? at.place : at.way;
  }

  int edits() {
    Choice row = theRow(-1);
    return row == null ? NOT : editsBetween(told, row.list, new HashMap<>());
  }

  private static int editsBetween(List<Integer> a, List<Integer> b, Map<List<Integer>, Integer> memo) {
    if (a.isEmpty() || b.isEmpty()) return a.size() + b.size();
    List<Integer> key = List.of(a.size(), b.size());
    if (memo.containsKey(key)) return memo.get(key);
    List<Integer> restA = a.subList(1, a.size());
    List<Integer> restB = b.subList(1, b.size());
    int best = editsBetween(restA, restB, memo) + (a.get(0).equals(b.get(0)) ? 0 : 1);
    best = Math.min(best, 1 + editsBetween(restA, b, memo));
    best = Math.min(best, 1 + editsBetween(a, restB, memo));
    memo.put(key, best);
    return best;
  }

  int teach() {
    if (laid == null) return NOT;
    List<int[]> teaching = new ArrayList<>();
    for (int f = 0; f < frames.size(); f++) {
      if (frames.get(f) != -1) teaching.add(new int[] {laid.get(f).sound, frames.get(f)});
    }
    for (int[] pair : teaching) counts[pair[0]][pair[1]]++;
    teachings.add(teaching);
    if (teachings.size() > 16) teachings.remove(0);
    return teaching.size();
  }

  int unteach() {
    if (teachings.isEmpty()) return NOT;
    List<int[]> teaching = teachings.remove(teachings.size() - 1);
    for (int[] pair : teaching) counts[pair[0]][pair[1]]--;
    return teaching.size();
  }

  int taught(int sound, int mark) {
    return in(sound, 0, 5) && in(mark, 0, 7) ? counts[sound][mark] : BAD;
  }

  int renew() {
    laid = null;
    int renewed = 0;
    for (int sound = 0; sound < 6; sound++) {
      int all = java.util.Arrays.stream(counts[sound]).sum();
      if (all == 0) continue;
      renewed++;
      for (int mark = 0; mark < 8; mark++) costs[sound][mark] = 50 * (all - counts[sound][mark]) / all;
    }
    return renewed;
  }

  int spot(int word, int what) {
    if (!in(word, 0, words.size() - 1) || !in(what, 0, 2)) return BAD;
    knownCosts = new HashMap<>();
    int[] best = null;
    for (int i = 0; i < frames.size(); i++) {
      for (int j = i + 1; j <= frames.size() && j - i <= 20; j++) {
        int cost = saidAs(word, i, j);
        if (cost < 0) continue;
        if (best == null || cost * (best[1] - best[0]) < best[2] * (j - i)) best = new int[] {i, j, cost};
      }
    }
    return best == null ? NOT : best[what];
  }

  int ears(int newLevel, int newRise, int newFall) {
    if (!in(newLevel, 1, 7) || !in(newRise, 1, 5) || !in(newFall, 1, 9)) return BAD;
    level = newLevel;
    rise = newRise;
    fall = newFall;
    return 1;
  }

  private boolean areAll(boolean loud, int from, int to) {
    for (int f = from; f < to; f++) {
      if ((frames.get(f) >= level) != loud) return false;
    }
    return true;
  }

  int speech(int what) {
    if (!in(what, 0, 1)) return BAD;
    int begin = 0;
    while (begin + rise <= frames.size() && !areAll(true, begin, begin + rise)) begin++;
    if (begin + rise > frames.size()) return NOT;
    if (what == 0) return begin;
    for (int end = begin + 1; end + fall <= frames.size(); end++) {
      if (areAll(true, end - 1, end) && areAll(false, end, end + fall)) return end;
    }
    return frames.size();
  }

  int count(int what) {
    return switch (what) {
      case 0 -> frames.size();
      case 1 -> words.size();
      case 2 -> told.size();
      case 3 -> teachings.size();
      case 4 -> laid == null ? 0 : 1;
      default -> BAD;
    };
  }
}
