import java.util.Arrays;

/** Takes frames of sound as rows of words; ../shared/DOC.md has the promises that each call keeps. */
public final class SoundWords {
  public static final int NONE = -1, BAD = -2, NOT = -3, FULL = -4;

  private static final int LOST = -1;
  private static final int BARRED = -1;
  /** Behind the last sound of a way that has fewer than four. */
  private static final int NO_SOUND = -1;
  /** In the place of a word: the beginning of a row (ahead of its first), or its end (behind its last). */
  private static final int EDGE = -1;

  private static final int MARKS = 8;
  private static final int SOUNDS = 6;
  private static final int MOST_FRAMES = 40;
  private static final int MOST_WORDS = 8;
  private static final int MOST_WAYS = 2;
  private static final int MOST_SOUNDS = 4;
  private static final int MOST_TOLD = 12;
  private static final int MOST_KEPT = 16;
  private static final int MOST_SPOTTED = 20;

  private static final int MOST_COST = 50;
  private static final int MOST_STAY = 20;
  private static final int MOST_GRAMMAR = 100;
  private static final int MOST_LEVEL = 7;
  private static final int MOST_RISE = 5;
  private static final int MOST_FALL = 9;

  private static final int FIRST_COST = 25;
  private static final int LOST_COST = 10;

  /** The cost of what has no reading: far above all that has one (under 7,000), and far from where sums wrap. */
  private static final int NEVER = 1000000;

  private final Heard heard = new Heard();
  private final Lexicon lexicon = new Lexicon();
  private final Reading reading = new Reading();
  private final Row told = new Row(MOST_TOLD);
  private final Laying laying = new Laying();
  private final Edits editing = new Edits();
  private final Lessons lessons = new Lessons();
  private final Spotter spotter = new Spotter();
  private final Ears hearing = new Ears();

  public SoundWords() {
  }

  public int feed(int mark) {
    if (mark != LOST && !isMark(mark)) {
      return BAD;
    }
    if (heard.frames() >= MOST_FRAMES) {
      return FULL;
    }
    endWhatLeansOnThis();
    heard.add(mark);
    return heard.frames();
  }

  public int hush() {
    int were = heard.frames();
    endWhatLeansOnThis();
    heard.clear();
    return were;
  }

  public int cost(int sound, int mark, int v) {
    if (!isSound(sound) || !isMark(mark) || !within(v, 0, MOST_COST)) {
      return BAD;
    }
    int was = heard.costOf(sound, mark);
    endWhatLeansOnThis();
    heard.setCost(sound, mark, v);
    return was;
  }

  public int stay(int v) {
    if (!within(v, 0, MOST_STAY)) {
      return BAD;
    }
    int was = heard.stayCost();
    endWhatLeansOnThis();
    heard.setStayCost(v);
    return was;
  }

  public int word(int a, int b, int c, int d) {
    if (!areSounds(a, b, c, d)) {
      return BAD;
    }
    if (lexicon.words() >= MOST_WORDS) {
      return FULL;
    }
    int number = lexicon.words();
    endWhatLeansOnThis();
    lexicon.addWord();
    lexicon.addWay(number, a, b, c, d);
    return number;
  }

  public int way(int word, int a, int b, int c, int d) {
    if (!isWord(word) || !areSounds(a, b, c, d)) {
      return BAD;
    }
    if (lexicon.waysOf(word) >= MOST_WAYS) {
      return FULL;
    }
    endWhatLeansOnThis();
    lexicon.addWay(word, a, b, c, d);
    return 1;
  }

  public int grammar(int a, int b, int v) {
    if (!isWordOrEdge(a) || !isWordOrEdge(b) || (a == EDGE && b == EDGE)) {
      return BAD;
    }
    if (v != BARRED && !within(v, 0, MOST_GRAMMAR)) {
      return BAD;
    }
    int was = lexicon.grammarOf(a, b);
    endWhatLeansOnThis();
    lexicon.setGrammar(a, b, v);
    return was;
  }

  public int least() {
    return reading.find(heard, lexicon) ? reading.cheapest() : NOT;
  }

  public int rowSize() {
    return reading.find(heard, lexicon) ? reading.row().size() : NOT;
  }

  public int rowAt(int i) {
    if (!reading.find(heard, lexicon)) {
      return NOT;
    }
    return within(i, 0, reading.row().size() - 1) ? reading.row().at(i) : BAD;
  }

  public int beside() {
    if (!reading.find(heard, lexicon)) {
      return NOT;
    }
    int other = reading.cheapestWithAnotherFirst(lexicon);
    return other < NEVER ? other : NONE;
  }

  public int say(int word) {
    if (!isWord(word)) {
      return BAD;
    }
    if (told.size() >= MOST_TOLD) {
      return FULL;
    }
    laying.end();
    told.add(word);
    return told.size();
  }

  public int unsay() {
    int had = told.size();
    laying.end();
    told.clear();
    return had;
  }

  public int lay() {
    int cheapest = laying.find(heard, lexicon, told);
    return cheapest < NEVER ? cheapest : NOT;
  }

  public int laid(int f, int what) {
    if (!within(f, 0, heard.frames() - 1) || !within(what, 0, 2)) {
      return BAD;
    }
    if (!laying.stands()) {
      return NOT;
    }
    if (what == 0) {
      return laying.soundAt(f);
    }
    return what == 1 ? laying.placeAt(f) : laying.wayAt(f);
  }

  public int edits() {
    return reading.find(heard, lexicon) ? editing.fewest(told, reading.row()) : NOT;
  }

  public int teach() {
    return laying.stands() ? lessons.learn(heard, laying) : NOT;
  }

  public int unteach() {
    return lessons.kept() > 0 ? lessons.unlearn() : NOT;
  }

  public int taught(int sound, int mark) {
    return isSound(sound) && isMark(mark) ? lessons.countOf(sound, mark) : BAD;
  }

  public int renew() {
    endWhatLeansOnThis();
    return lessons.setCosts(heard);
  }

  public int spot(int word, int what) {
    if (!isWord(word) || !within(what, 0, 2)) {
      return BAD;
    }
    if (!spotter.find(heard, lexicon, word)) {
      return NOT;
    }
    if (what == 0) {
      return spotter.begin();
    }
    return what == 1 ? spotter.end() : spotter.price();
  }

  public int ears(int level, int rise, int fall) {
    if (!within(level, 1, MOST_LEVEL) || !within(rise, 1, MOST_RISE) || !within(fall, 1, MOST_FALL)) {
      return BAD;
    }
    hearing.set(level, rise, fall);
    return 1;
  }

  public int speech(int what) {
    if (!within(what, 0, 1)) {
      return BAD;
    }
    int begin = hearing.begin(heard);
    if (begin == NONE) {
      return NOT;
    }
    return what == 0 ? begin : hearing.endBehind(heard, begin);
  }

  public int count(int what) {
    switch (what) {
      case 0:
        return heard.frames();
      case 1:
        return lexicon.words();
      case 2:
        return told.size();
      case 3:
        return lessons.kept();
      case 4:
        return laying.stands() ? 1 : 0;
      default:
        return BAD;
    }
  }

  /** Frames, costs, words and grammar are what both THE ROW and what is LAID are made from. */
  private void endWhatLeansOnThis() {
    reading.end();
    laying.end();
  }

  private boolean isWord(int word) {
    return within(word, 0, lexicon.words() - 1);
  }

  private boolean isWordOrEdge(int word) {
    return word == EDGE || isWord(word);
  }

  private static boolean isMark(int mark) {
    return within(mark, 0, MARKS - 1);
  }

  private static boolean isSound(int sound) {
    return within(sound, 0, SOUNDS - 1);
  }

  private static boolean areSounds(int a, int b, int c, int d) {
    return isSound(a) && mayFollow(a, b) && mayFollow(b, c) && mayFollow(c, d);
  }

  private static boolean mayFollow(int ahead, int sound) {
    return sound == NO_SOUND || (isSound(sound) && ahead != NO_SOUND);
  }

  private static boolean within(int v, int low, int high) {
    return v >= low && v <= high;
  }

  /** The frames, and what it costs to hear a sound in one. */
  private static final class Heard {
    private final int[] marks = new int[MOST_FRAMES];
    private final int[][] costs = new int[SOUNDS][MARKS];
    private int frames = 0;
    private int stayCost = 1;

    Heard() {
      for (int sound = 0; sound < SOUNDS; sound++) {
        Arrays.fill(costs[sound], FIRST_COST);
      }
    }

    int frames() {
      return frames;
    }

    int markOf(int f) {
      return marks[f];
    }

    void add(int mark) {
      if (frames < MOST_FRAMES) {
        marks[frames] = mark;
        frames++;
      }
    }

    void clear() {
      frames = 0;
    }

    int costOf(int sound, int mark) {
      return costs[sound][mark];
    }

    void setCost(int sound, int mark, int v) {
      costs[sound][mark] = v;
    }

    int stayCost() {
      return stayCost;
    }

    void setStayCost(int v) {
      stayCost = v;
    }

    int costAt(int sound, int f) {
      return marks[f] == LOST ? LOST_COST : costs[sound][marks[f]];
    }
  }

  /** The words, the ways to say them, and the grammar. */
  private static final class Lexicon {
    /** The sounds of a word's way stand in one row, at word * MOST_WAYS + way. */
    private final int[][] sounds = new int[MOST_WORDS * MOST_WAYS][MOST_SOUNDS];
    private final int[] lengths = new int[MOST_WORDS * MOST_WAYS];
    private final int[] ways = new int[MOST_WORDS];
    /** Row 0 is the beginning and column 0 the end, so that EDGE needs no table of its own. */
    private final int[][] grammar = new int[MOST_WORDS + 1][MOST_WORDS + 1];
    private int words = 0;

    int words() {
      return words;
    }

    int waysOf(int w) {
      return ways[w];
    }

    int lengthOf(int w, int way) {
      return lengths[w * MOST_WAYS + way];
    }

    int soundOf(int w, int way, int k) {
      return sounds[w * MOST_WAYS + way][k];
    }

    void addWord() {
      if (words < MOST_WORDS) {
        words++;
      }
    }

    void addWay(int w, int a, int b, int c, int d) {
      if (ways[w] >= MOST_WAYS) {
        return;
      }
      int at = w * MOST_WAYS + ways[w];
      append(at, a);
      append(at, b);
      append(at, c);
      append(at, d);
      ways[w]++;
    }

    private void append(int at, int sound) {
      if (sound != NO_SOUND && lengths[at] < MOST_SOUNDS) {
        sounds[at][lengths[at]] = sound;
        lengths[at]++;
      }
    }

    int grammarOf(int a, int b) {
      return grammar[a + 1][b + 1];
    }

    void setGrammar(int a, int b, int v) {
      grammar[a + 1][b + 1] = v;
    }

    /** What it costs that b stands behind a, where sums and comparisons are made. */
    int joint(int a, int b) {
      int v = grammarOf(a, b);
      return v == BARRED ? NEVER : v;
    }
  }

  /** A row of words that has an upper bound. */
  private static final class Row {
    private final int[] words;
    private int size = 0;

    Row(int room) {
      words = new int[Math.max(room, 0)];
    }

    int size() {
      return size;
    }

    int at(int i) {
      return i >= 0 && i < size ? words[i] : NONE;
    }

    void add(int w) {
      if (size < words.length) {
        words[size] = w;
        size++;
      }
    }

    void clear() {
      size = 0;
    }
  }

  /** One word said along the frames, from wherever it may start to wherever it may end. */
  private static final class Saying {
    /** By frame: what has been paid ahead of it, if the word starts with it. */
    private final int[] starts = new int[MOST_FRAMES + 1];
    /** By frame: what has been paid ahead of it at the least, if the word ends there. */
    private final int[] ends = new int[MOST_FRAMES + 1];
    private final int[] paid = new int[MOST_SOUNDS];

    void startNowhere() {
      Arrays.fill(starts, NEVER);
    }

    void start(int f, int cost) {
      starts[f] = Math.min(NEVER, cost);
    }

    int endAt(int f) {
      return ends[f];
    }

    void run(Heard heard, Lexicon lexicon, int w, int from, int to) {
      Arrays.fill(ends, NEVER);
      for (int way = 0; way < lexicon.waysOf(w); way++) {
        int last = lexicon.lengthOf(w, way) - 1;
        Arrays.fill(paid, NEVER);
        for (int f = from; f < to; f++) {
          step(heard, lexicon, w, way, f);
          ends[f + 1] = Math.min(ends[f + 1], paid[last]);
        }
      }
    }

    /** The last sound goes first, because each leans on what the one ahead of it had cost a frame ago. */
    private void step(Heard heard, Lexicon lexicon, int w, int way, int f) {
      for (int k = lexicon.lengthOf(w, way) - 1; k >= 0; k--) {
        int entered = k == 0 ? starts[f] : paid[k - 1];
        int cheaper = Math.min(entered, paid[k] + heard.stayCost());
        paid[k] = Math.min(NEVER, cheaper + heard.costAt(lexicon.soundOf(w, way, k), f));
      }
    }
  }

  /** LEAST and THE ROW; found when they are asked for, and kept until something they lean on changes. */
  private static final class Reading {
    /** By frame and word: the least for all frames from there, as a row that begins with the word, unjoined. */
    private final int[][] ahead = new int[MOST_FRAMES][MOST_WORDS];
    /** By way and sound: the least for all frames from the current one, which that sound is on. */
    private final int[][] on = new int[MOST_WORDS * MOST_WAYS][MOST_SOUNDS];
    /** By frame: what the words of THE ROW found so far have cost at the least, if they end there. */
    private final int[] paid = new int[MOST_FRAMES + 1];
    private final Saying saying = new Saying();
    private final Row row = new Row(MOST_FRAMES);
    private int cheapest = NEVER;
    private boolean found = false;

    int cheapest() {
      return cheapest;
    }

    Row row() {
      return row;
    }

    void end() {
      found = false;
    }

    /** Whether there is a reading; if so, what it costs and its row can be asked for. */
    boolean find(Heard heard, Lexicon lexicon) {
      if (!found) {
        lookAhead(heard, lexicon);
        row.clear();
        cheapest = heard.frames() > 0 ? cheapestBehind(lexicon, EDGE, 0, NONE) : NEVER;
        if (cheapest < NEVER) {
          findRow(heard, lexicon);
        }
        found = true;
      }
      return cheapest < NEVER;
    }

    int cheapestWithAnotherFirst(Lexicon lexicon) {
      return cheapestBehind(lexicon, EDGE, 0, row.at(0));
    }

    /** The least for all frames from f behind a word (or the beginning), the next word not being a given one. */
    private int cheapestBehind(Lexicon lexicon, int w, int f, int shunned) {
      int least = NEVER;
      for (int next = 0; next < lexicon.words(); next++) {
        if (next != shunned) {
          least = Math.min(least, lexicon.joint(w, next) + ahead[f][next]);
        }
      }
      return least;
    }

    private void lookAhead(Heard heard, Lexicon lexicon) {
      for (int at = 0; at < MOST_WORDS * MOST_WAYS; at++) {
        Arrays.fill(on[at], NEVER);
      }
      for (int f = heard.frames() - 1; f >= 0; f--) {
        boolean isLast = f == heard.frames() - 1;
        for (int w = 0; w < lexicon.words(); w++) {
          int behind = isLast ? lexicon.joint(w, EDGE) : cheapestBehind(lexicon, w, f + 1, NONE);
          ahead[f][w] = NEVER;
          for (int way = 0; way < lexicon.waysOf(w); way++) {
            ahead[f][w] = Math.min(ahead[f][w], stepBack(heard, lexicon, w, way, f, behind));
          }
        }
      }
    }

    /** Takes one way of a word from frame f + 1 back to frame f: the least, if its first sound is on that. */
    private int stepBack(Heard heard, Lexicon lexicon, int w, int way, int f, int behind) {
      int[] least = on[w * MOST_WAYS + way];
      int length = lexicon.lengthOf(w, way);
      for (int k = 0; k < length; k++) {
        int goOn = k + 1 < length ? least[k + 1] : behind;
        int cheaper = Math.min(goOn, least[k] + heard.stayCost());
        least[k] = Math.min(NEVER, cheaper + heard.costAt(lexicon.soundOf(w, way, k), f));
      }
      return least[0];
    }

    /**
     * Word by word, the first that still leads to LEAST. The words found may end with several frames, and
     * which of these the row needs may show only later: so the costs are kept for all of them.
     */
    private void findRow(Heard heard, Lexicon lexicon) {
      int frames = heard.frames();
      int last = EDGE;
      Arrays.fill(paid, NEVER);
      paid[0] = 0;
      for (int i = 0; i < frames; i++) {
        if (paid[frames] + lexicon.joint(last, EDGE) == cheapest) {
          return;
        }
        int next = firstThatLeadsOn(lexicon, last, frames);
        if (next == NONE) {
          return;
        }
        append(heard, lexicon, last, next);
        last = next;
      }
    }

    private int firstThatLeadsOn(Lexicon lexicon, int last, int frames) {
      for (int w = 0; w < lexicon.words(); w++) {
        for (int f = 0; f < frames; f++) {
          if (paid[f] + lexicon.joint(last, w) + ahead[f][w] == cheapest) {
            return w;
          }
        }
      }
      return NONE;
    }

    private void append(Heard heard, Lexicon lexicon, int last, int next) {
      int frames = heard.frames();
      for (int f = 0; f <= frames; f++) {
        saying.start(f, paid[f] + lexicon.joint(last, next));
      }
      saying.run(heard, lexicon, next, 0, frames);
      for (int f = 0; f <= frames; f++) {
        paid[f] = saying.endAt(f);
      }
      row.add(next);
    }
  }

  /** What is LAID: for each frame the sound, the place in the told row, and the way of the word there. */
  private static final class Laying {
    /** Each place of the told row has a slot for every sound that a word may have there. */
    private static final int SLOTS_OF_PLACE = MOST_WAYS * MOST_SOUNDS;
    private static final int MOST_SLOTS = MOST_TOLD * SLOTS_OF_PLACE;

    private final int[] soundOfSlot = new int[MOST_SLOTS];
    private final int[] costBehindPlace = new int[MOST_TOLD];
    /** By frame and slot: the least for all frames from there, if the slot's sound is on that one. */
    private final int[][] ahead = new int[MOST_FRAMES + 1][MOST_SLOTS];
    private final int[] slotOfFrame = new int[MOST_FRAMES];
    private int places = 0;
    private boolean stands = false;

    boolean stands() {
      return stands;
    }

    void end() {
      stands = false;
    }

    int soundAt(int f) {
      return soundOfSlot[slotOfFrame[f]];
    }

    int placeAt(int f) {
      return slotOfFrame[f] / SLOTS_OF_PLACE;
    }

    int wayAt(int f) {
      return slotOfFrame[f] % SLOTS_OF_PLACE / MOST_SOUNDS;
    }

    /** What the told row's cheapest reading costs, which then is LAID. */
    int find(Heard heard, Lexicon lexicon, Row told) {
      stands = false;
      if (told.size() == 0 || heard.frames() == 0) {
        return NEVER;
      }
      takeRow(lexicon, told);
      lookAhead(heard);
      int cheapest = lexicon.joint(EDGE, told.at(0)) + ahead[0][firstSlot(0, 0)];
      if (cheapest < NEVER) {
        walk(heard);
        stands = true;
      }
      return cheapest;
    }

    private void takeRow(Lexicon lexicon, Row told) {
      Arrays.fill(soundOfSlot, NO_SOUND);
      places = told.size();
      for (int place = 0; place < places; place++) {
        int w = told.at(place);
        costBehindPlace[place] = lexicon.joint(w, place + 1 < places ? told.at(place + 1) : EDGE);
        for (int way = 0; way < lexicon.waysOf(w); way++) {
          int first = place * SLOTS_OF_PLACE + way * MOST_SOUNDS;
          for (int k = 0; k < lexicon.lengthOf(w, way); k++) {
            soundOfSlot[first + k] = lexicon.soundOf(w, way, k);
          }
        }
      }
    }

    private void lookAhead(Heard heard) {
      int frames = heard.frames();
      Arrays.fill(ahead[frames], NEVER);
      for (int f = frames - 1; f >= 0; f--) {
        Arrays.fill(ahead[f], NEVER);
        for (int slot = 0; slot < places * SLOTS_OF_PLACE; slot++) {
          if (soundOfSlot[slot] != NO_SOUND) {
            int cheaper = Math.min(goOn(slot, f + 1, frames), stayOn(heard, slot, f + 1));
            ahead[f][slot] = Math.min(NEVER, cheaper + heard.costAt(soundOfSlot[slot], f));
          }
        }
      }
    }

    private int stayOn(Heard heard, int slot, int f) {
      return ahead[f][slot] + heard.stayCost();
    }

    /** The least for all frames from f, if a slot's sound has ended ahead of that. */
    private int goOn(int slot, int f, int frames) {
      if (hasSoundBehind(slot)) {
        return ahead[f][slot + 1];
      }
      int place = slot / SLOTS_OF_PLACE;
      boolean wordsEnd = place + 1 == places;
      boolean framesEnd = f == frames;
      if (wordsEnd != framesEnd) {
        return NEVER;
      }
      return wordsEnd ? costBehindPlace[place] : costBehindPlace[place] + ahead[f][firstSlot(place + 1, f)];
    }

    private boolean hasSoundBehind(int slot) {
      return slot % MOST_SOUNDS + 1 < MOST_SOUNDS && soundOfSlot[slot + 1] != NO_SOUND;
    }

    /** The first sound of the cheaper way of a place's word, if that begins with frame f; of way 0 if both are. */
    private int firstSlot(int place, int f) {
      int way0 = place * SLOTS_OF_PLACE;
      int way1 = way0 + MOST_SOUNDS;
      return ahead[f][way1] < ahead[f][way0] ? way1 : way0;
    }

    /** Goes on to the next sound as soon as that is no dearer: of several readings that is the first. */
    private void walk(Heard heard) {
      int frames = heard.frames();
      int slot = firstSlot(0, 0);
      slotOfFrame[0] = slot;
      for (int f = 1; f < frames; f++) {
        int cost = goOn(slot, f, frames);
        if (cost < NEVER && cost <= stayOn(heard, slot, f)) {
          slot = hasSoundBehind(slot) ? slot + 1 : firstSlot(slot / SLOTS_OF_PLACE + 1, f);
        }
        slotOfFrame[f] = slot;
      }
    }
  }

  /** The edits between two rows. */
  private static final class Edits {
    /** By how many words of the second row are made: the edits from those of the first taken so far. */
    private final int[] made = new int[MOST_FRAMES + 1];

    int fewest(Row a, Row b) {
      int size = Math.min(b.size(), MOST_FRAMES);
      for (int j = 0; j <= size; j++) {
        made[j] = j;
      }
      for (int i = 1; i <= a.size(); i++) {
        int corner = made[0];
        made[0] = i;
        for (int j = 1; j <= size; j++) {
          int changed = a.at(i - 1) == b.at(j - 1) ? corner : corner + 1;
          corner = made[j];
          made[j] = Math.min(changed, 1 + Math.min(made[j], made[j - 1]));
        }
      }
      return made[size];
    }
  }

  /** The counts of sounds and marks, and the latest teachings, so that they can be taken back. */
  private static final class Lessons {
    private final int[][] counts = new int[SOUNDS][MARKS];
    /** What each teaching that is kept has added: a ring, in which the newest overwrites the eldest. */
    private final int[][] added = new int[MOST_KEPT][SOUNDS * MARKS];
    private int next = 0;
    private int kept = 0;

    int kept() {
      return kept;
    }

    int countOf(int sound, int mark) {
      return counts[sound][mark];
    }

    int learn(Heard heard, Laying laying) {
      int[] lesson = added[next];
      Arrays.fill(lesson, 0);
      int counted = 0;
      for (int f = 0; f < heard.frames(); f++) {
        int mark = heard.markOf(f);
        if (mark != LOST) {
          int sound = laying.soundAt(f);
          counts[sound][mark]++;
          lesson[sound * MARKS + mark]++;
          counted++;
        }
      }
      next = (next + 1) % MOST_KEPT;
      kept = Math.min(kept + 1, MOST_KEPT);
      return counted;
    }

    int unlearn() {
      next = (next + MOST_KEPT - 1) % MOST_KEPT;
      kept--;
      int[] lesson = added[next];
      int counted = 0;
      for (int sound = 0; sound < SOUNDS; sound++) {
        for (int mark = 0; mark < MARKS; mark++) {
          int n = lesson[sound * MARKS + mark];
          counts[sound][mark] -= n;
          counted += n;
        }
      }
      return counted;
    }

    int setCosts(Heard heard) {
      int renewed = 0;
      for (int sound = 0; sound < SOUNDS; sound++) {
        int all = allOf(sound);
        if (all > 0) {
          for (int mark = 0; mark < MARKS; mark++) {
            heard.setCost(sound, mark, MOST_COST * (all - counts[sound][mark]) / all);
          }
          renewed++;
        }
      }
      return renewed;
    }

    private int allOf(int sound) {
      int all = 0;
      for (int mark = 0; mark < MARKS; mark++) {
        all += counts[sound][mark];
      }
      return all;
    }
  }

  /** Where a word is SPOTTED. */
  private static final class Spotter {
    private final Saying saying = new Saying();
    private int begin = 0;
    private int end = 0;
    private int price = 0;

    int begin() {
      return begin;
    }

    int end() {
      return end;
    }

    int price() {
      return price;
    }

    boolean find(Heard heard, Lexicon lexicon, int w) {
      boolean found = false;
      for (int i = 0; i < heard.frames(); i++) {
        int last = Math.min(heard.frames(), i + MOST_SPOTTED);
        saying.startNowhere();
        saying.start(i, 0);
        saying.run(heard, lexicon, w, i, last);
        for (int j = i + 1; j <= last; j++) {
          int cost = saying.endAt(j);
          if (cost < NEVER && (!found || isCheaper(cost, j - i))) {
            begin = i;
            end = j;
            price = cost;
            found = true;
          }
        }
      }
      return found;
    }

    /** Compares the costs a frame as fractions, multiplied out. */
    private boolean isCheaper(int cost, int frames) {
      return cost * (end - begin) < price * frames;
    }
  }

  /** Where speech begins and ends. */
  private static final class Ears {
    private int level = 1;
    private int rise = 2;
    private int fall = 3;

    void set(int newLevel, int newRise, int newFall) {
      level = newLevel;
      rise = newRise;
      fall = newFall;
    }

    int begin(Heard heard) {
      int loud = 0;
      for (int f = 0; f < heard.frames(); f++) {
        loud = isLoud(heard, f) ? loud + 1 : 0;
        if (loud == rise) {
          return f + 1 - rise;
        }
      }
      return NONE;
    }

    int endBehind(Heard heard, int begin) {
      int still = 0;
      for (int f = begin; f < heard.frames(); f++) {
        still = isLoud(heard, f) ? 0 : still + 1;
        if (still == fall) {
          return f + 1 - fall;
        }
      }
      return heard.frames();
    }

    private boolean isLoud(Heard heard, int f) {
      return heard.markOf(f) != LOST && heard.markOf(f) >= level;
    }
  }
}
