/** Promises 1 to 25 of the document, one after the other: ordinary inputs, the edges it names, and wrong inputs. */
public final class PromisesTest {
  private static final int NONE = -1, BAD = -2, NOT = -3, FULL = -4;
  private static final int LOW = Integer.MIN_VALUE, HIGH = Integer.MAX_VALUE;
  private static final Check check = new Check();

  public static void main(String[] args) {
    newObject();
    feed();
    hush();
    cost();
    stay();
    word();
    way();
    grammar();
    least();
    theRow();
    theRowNeedsAllFramesItMayEndWith();
    theRowOfAllThatFits();
    rowAt();
    beside();
    say();
    unsay();
    lay();
    layTakesTheFirstOfSeveral();
    laid();
    whatEndsWhatIsLaid();
    edits();
    teach();
    unteach();
    taught();
    renew();
    spot();
    ears();
    speech();
    count();
    check.end();
  }

  private static void due(String what, int got, int want) {
    check.due(what, got, want);
  }

  private static void feedAll(SoundWords x, int... marks) {
    for (int mark : marks) {
      x.feed(mark);
    }
  }

  private static void sayAll(SoundWords x, int... words) {
    for (int w : words) {
      x.say(w);
    }
  }

  /** Sounds 0 .. 5 show as the marks of their numbers for 1. */
  private static SoundWords clear() {
    SoundWords x = new SoundWords();
    for (int sound = 0; sound < 6; sound++) {
      x.cost(sound, sound, 1);
    }
    return x;
  }

  /** Something is LAID: word 0 (sounds 0, 1; or 2) on marks 0, LOST, 1. */
  private static SoundWords withLaid() {
    SoundWords x = clear();
    x.word(0, 1, -1, -1);
    x.way(0, 2, -1, -1, -1);
    x.word(1, -1, -1, -1);
    feedAll(x, 0, -1, 1);
    x.say(0);
    x.lay();
    return x;
  }

  private static void row(String what, SoundWords x, int... want) {
    due(what + ": rowSize", x.rowSize(), want.length);
    for (int i = 0; i < want.length; i++) {
      due(what + ": rowAt " + i, x.rowAt(i), want[i]);
    }
    due(what + ": rowAt behind the last", x.rowAt(want.length), BAD);
  }

  private static void laidRow(String what, SoundWords x, int kind, int... want) {
    for (int f = 0; f < want.length; f++) {
      due(what + ": laid " + f + ", " + kind, x.laid(f, kind), want[f]);
    }
    due(what + ": laid behind the last", x.laid(want.length, kind), BAD);
  }

  private static void newObject() {
    SoundWords x = new SoundWords();
    for (int what = 0; what < 5; what++) {
      due("new: count " + what, x.count(what), 0);
    }
    for (int sound = 0; sound < 6; sound++) {
      for (int mark = 0; mark < 8; mark++) {
        due("new: taught", x.taught(sound, mark), 0);
        due("new: cost", x.cost(sound, mark, 25), 25);
      }
    }
    due("new: stay", x.stay(1), 1);
    due("new: least", x.least(), NOT);
    due("new: say", x.say(0), BAD);
    due("new: speech", x.speech(0), NOT);
    due("new: unteach", x.unteach(), NOT);
  }

  private static void feed() {
    SoundWords x = new SoundWords();
    for (int wrong : new int[] {LOW, -2, 8, HIGH}) {
      due("feed: no such mark", x.feed(wrong), BAD);
    }
    due("feed: nothing has changed", x.count(0), 0);
    for (int f = 0; f < 40; f++) {
      due("feed: how many", x.feed(f % 9 - 1), f + 1);
    }
    due("feed: the 41st", x.feed(0), FULL);
    due("feed: the 41st, lost", x.feed(-1), FULL);
    due("feed: BAD goes ahead of FULL", x.feed(8), BAD);
    due("feed: still 40", x.count(0), 40);
  }

  private static void hush() {
    SoundWords x = new SoundWords();
    due("hush: none", x.hush(), 0);
    x.word(0, -1, -1, -1);
    feedAll(x, 1, -1, 2);
    due("hush: three", x.hush(), 3);
    due("hush: none any more", x.count(0), 0);
    due("hush: no reading", x.least(), NOT);
    due("hush: words stay", x.count(1), 1);
    due("hush: feed begins anew", x.feed(3), 1);
    due("hush: the new frames are read", x.least(), 25);
    for (int f = 1; f < 40; f++) {
      x.feed(0);
    }
    due("hush: forty", x.hush(), 40);
  }

  private static void cost() {
    SoundWords x = new SoundWords();
    due("cost: which it was", x.cost(5, 7, 0), 25);
    due("cost: least", x.cost(5, 7, 50), 0);
    due("cost: most", x.cost(5, 7, 7), 50);
    due("cost: no other has changed", x.cost(5, 6, 25), 25);
    due("cost: no other has changed", x.cost(4, 7, 25), 25);
    for (int wrong : new int[] {LOW, -1, 6, HIGH}) {
      due("cost: no such sound", x.cost(wrong, 0, 0), BAD);
    }
    for (int wrong : new int[] {LOW, -1, 8, HIGH}) {
      due("cost: no such mark (LOST is none)", x.cost(0, wrong, 0), BAD);
    }
    for (int wrong : new int[] {LOW, -1, 51, HIGH}) {
      due("cost: out of bounds", x.cost(5, 7, wrong), BAD);
    }
    due("cost: nothing has changed", x.cost(5, 7, 7), 7);
    x.word(5, -1, -1, -1);
    feedAll(x, 7);
    due("cost: is what a reading pays", x.least(), 7);
    x.cost(5, 7, 9);
    due("cost: is what the next reading pays", x.least(), 9);
  }

  private static void stay() {
    SoundWords x = new SoundWords();
    due("stay: at first", x.stay(0), 1);
    due("stay: least", x.stay(20), 0);
    for (int wrong : new int[] {LOW, -1, 21, HIGH}) {
      due("stay: out of bounds", x.stay(wrong), BAD);
    }
    due("stay: most", x.stay(3), 20);
    x.word(0, -1, -1, -1);
    x.grammar(0, 0, -1);
    feedAll(x, 0, -1, 0, 0);
    due("stay: for each frame but the first, lost ones too", x.least(), 25 + 10 + 25 + 25 + 3 * 3);
    x.stay(4);
    due("stay: the next reading", x.least(), 85 + 3 * 4);
  }

  private static void word() {
    SoundWords x = new SoundWords();
    int[][] wrong = {
      {-1, -1, -1, -1}, {-1, 0, -1, -1}, {-1, -1, -1, 0}, {0, -1, 1, -1}, {0, -1, -1, 1}, {0, 1, -1, 2}, {0, -1, 1, 2},
      {6, -1, -1, -1}, {0, 6, -1, -1}, {0, 0, 6, -1}, {0, 0, 0, 6}, {-2, -1, -1, -1}, {0, -2, -1, -1}, {0, 0, -2, -1},
      {0, 0, 0, -2}, {LOW, 0, 0, 0}, {0, HIGH, 0, 0}, {0, -1, -2, -1}, {0, -1, -1, 6},
    };
    for (int[] w : wrong) {
      due("word: no row of sounds", x.word(w[0], w[1], w[2], w[3]), BAD);
    }
    due("word: nothing has changed", x.count(1), 0);
    due("word: one sound", x.word(5, -1, -1, -1), 0);
    due("word: two sounds", x.word(0, 5, -1, -1), 1);
    due("word: three sounds", x.word(0, 0, 0, -1), 2);
    due("word: four sounds", x.word(1, 2, 3, 4), 3);
    due("word: the same again", x.word(1, 2, 3, 4), 4);
    for (int w = 5; w < 8; w++) {
      due("word: its number", x.word(0, -1, -1, -1), w);
    }
    due("word: a ninth", x.word(0, -1, -1, -1), FULL);
    due("word: BAD goes ahead of FULL", x.word(6, -1, -1, -1), BAD);
    due("word: eight", x.count(1), 8);
    eachSoundNeedsAFrame();
  }

  private static void eachSoundNeedsAFrame() {
    for (int length = 1; length <= 4; length++) {
      SoundWords x = new SoundWords();
      x.word(0, length > 1 ? 0 : -1, length > 2 ? 0 : -1, length > 3 ? 0 : -1);
      for (int f = 1; f < length; f++) {
        x.feed(0);
        due("word: too few frames", x.least(), NOT);
      }
      x.feed(0);
      due("word: as many frames as sounds", x.least(), 25 * length);
    }
  }

  private static void way() {
    SoundWords x = clear();
    due("way: no such word", x.way(0, 0, -1, -1, -1), BAD);
    x.word(0, 1, 2, -1);
    x.word(3, -1, -1, -1);
    for (int wrong : new int[] {LOW, -1, 2, HIGH}) {
      due("way: no such word", x.way(wrong, 0, -1, -1, -1), BAD);
    }
    due("way: no sounds", x.way(0, -1, -1, -1, -1), BAD);
    due("way: a gap", x.way(0, 1, -1, 1, -1), BAD);
    due("way: no such sound", x.way(0, 1, 2, 3, 6), BAD);
    feedAll(x, 4);
    due("way: without", x.least(), 25);
    row("way: without", x, 1);
    due("way: a second", x.way(0, 4, -1, -1, -1), 1);
    due("way: of the two the cheaper", x.least(), 1);
    row("way: with", x, 0);
    due("way: a third", x.way(0, 5, -1, -1, -1), FULL);
    due("way: BAD goes ahead of FULL", x.way(0, 6, -1, -1, -1), BAD);
    due("way: nothing has changed", x.least(), 1);
    x.hush();
    feedAll(x, 0, 1, 2);
    due("way: the first is still there", x.least(), 3);
    due("way: the same as the first", x.way(1, 3, -1, -1, -1), 1);
    due("way: no word more", x.count(1), 2);
  }

  private static void grammar() {
    SoundWords x = new SoundWords();
    due("grammar: no such words", x.grammar(-1, 0, 0), BAD);
    x.word(0, -1, -1, -1);
    x.word(1, -1, -1, -1);
    due("grammar: not both", x.grammar(-1, -1, 0), BAD);
    for (int wrong : new int[] {LOW, -2, 2, HIGH}) {
      due("grammar: no such word", x.grammar(wrong, 0, 0), BAD);
      due("grammar: no such word", x.grammar(0, wrong, 0), BAD);
      due("grammar: no such word", x.grammar(-1, wrong, 0), BAD);
      due("grammar: no such word", x.grammar(wrong, -1, 0), BAD);
    }
    for (int wrong : new int[] {LOW, -2, 101, HIGH}) {
      due("grammar: out of bounds", x.grammar(0, 1, wrong), BAD);
    }
    int told = 10;
    for (int a = -1; a < 2; a++) {
      for (int b = a == -1 ? 0 : -1; b < 2; b++) {
        due("grammar: at first", x.grammar(a, b, told++), 0);
      }
    }
    told = 10;
    for (int a = -1; a < 2; a++) {
      for (int b = a == -1 ? 0 : -1; b < 2; b++) {
        due("grammar: each by itself", x.grammar(a, b, 100), told++);
        due("grammar: most", x.grammar(a, b, -1), 100);
        due("grammar: barred", x.grammar(a, b, 0), -1);
      }
    }
    x.grammar(0, 1, 3);
    x.word(2, -1, -1, -1);
    due("grammar: stays with a word more", x.grammar(0, 1, 3), 3);
    due("grammar: of a new word", x.grammar(2, 2, 0), 0);
  }

  private static void least() {
    SoundWords x = clear();
    due("least: nothing", x.least(), NOT);
    x.word(0, 1, -1, -1);
    due("least: no frames", x.least(), NOT);
    feedAll(x, 0);
    due("least: too few frames", x.least(), NOT);
    feedAll(x, 1);
    due("least: sounds", x.least(), 2);
    feedAll(x, 1);
    due("least: a frame more of the sound", x.least(), 4);
    feedAll(x, 1);
    due("least: no second word, which would cost 25 for sound 0", x.least(), 6);
    x.grammar(-1, 0, 7);
    due("least: with what begins", x.least(), 13);
    x.grammar(0, -1, 30);
    due("least: with what ends", x.least(), 43);
    x.grammar(0, 0, 100);
    due("least: one word, nothing follows", x.least(), 43);
    x.stay(20);
    due("least: staying twice against what follows", x.least(), 81);
    x.grammar(0, 0, 10);
    due("least: two words, one behind the other", x.least(), 7 + 1 + 1 + 10 + 25 + 1 + 30);
    x.grammar(0, 0, -1);
    due("least: barred to follow", x.least(), 81);
    x.grammar(0, -1, -1);
    due("least: barred to end", x.least(), NOT);
    x.grammar(0, -1, 0);
    x.grammar(-1, 0, -1);
    due("least: barred to begin", x.least(), NOT);
    dearestOfAll();
  }

  private static void dearestOfAll() {
    SoundWords x = new SoundWords();
    x.word(0, -1, -1, -1);
    x.cost(0, 0, 50);
    x.stay(20);
    x.grammar(-1, 0, 100);
    x.grammar(0, 0, 100);
    x.grammar(0, -1, 100);
    for (int f = 0; f < 40; f++) {
      x.feed(0);
    }
    due("least: the dearest staying", x.least(), 200 + 40 * 50 + 39 * 20);
    x.stay(20);
    x.grammar(0, 0, 0);
    due("least: the dearest one by one", x.least(), 200 + 40 * 50);
  }

  private static void theRow() {
    SoundWords x = new SoundWords();
    due("rowSize: nothing", x.rowSize(), NOT);
    x.word(0, 0, -1, -1);
    x.word(0, -1, -1, -1);
    x.stay(0);
    feedAll(x, 0, 0);
    row("row: one that others begin with goes ahead", x, 0);
    feedAll(x, 0);
    row("row: as long as it fits", x, 0);
    x.stay(1);
    row("row: the first WORD is what counts first", x, 0, 1);
    x.grammar(-1, 0, 1);
    row("row: cheaper rows go ahead of it", x, 1, 0);
    x.grammar(-1, 0, 0);
    x.grammar(0, 1, -1);
    row("row: then the next WORD counts", x, 1, 0);
    x.grammar(1, 0, -1);
    row("row: nothing else is left", x, 1, 1, 1);
    x.grammar(1, 1, 1);
    row("row: the first of those that cost the same", x, 0);
    x.grammar(0, -1, -1);
    row("row: barred to end, and all of 1 cost the same", x, 1);
    x.hush();
    due("rowSize: no frames", x.rowSize(), NOT);
    for (int f = 0; f < 40; f++) {
      x.feed(-1);
    }
    x.grammar(1, 1, 0);
    due("rowSize: forty", x.rowSize(), 40);
    due("rowAt: the last of forty", x.rowAt(39), 1);
    due("rowAt: behind forty", x.rowAt(40), BAD);
  }

  /** After word 0 the row goes on with 1 only if word 0 has ended with frame 2, which is not where it ends first. */
  private static void theRowNeedsAllFramesItMayEndWith() {
    SoundWords x = new SoundWords();
    x.word(0, -1, -1, -1);
    x.word(1, 1, -1, -1);
    x.word(2, -1, -1, -1);
    x.word(0, 3, -1, -1);
    x.stay(0);
    x.grammar(0, 0, -1);
    for (int sound = 0; sound < 4; sound++) {
      for (int mark = 0; mark < 4; mark++) {
        x.cost(sound, mark, 50);
      }
    }
    x.cost(0, 0, 0);
    x.cost(0, 1, 0);
    x.cost(1, 1, 0);
    x.cost(1, 2, 0);
    x.cost(2, 1, 0);
    x.cost(2, 2, 0);
    x.cost(1, 3, 0);
    feedAll(x, 0, 1, 2, 3);
    row("row: word 1 behind a long word 0", x, 0, 1);
    due("row: its cost", x.least(), 0);
    x.cost(1, 1, 50);
    row("row: word 1 behind a longer word 0", x, 0, 1);
    x.cost(1, 3, 50);
    x.cost(0, 3, 0);
    row("row: word 2 ahead of word 0", x, 0, 2, 0);
    x.cost(1, 1, 0);
    row("row: word 1 on its two frames", x, 0, 1, 0);
  }

  /** Eight words with two ways each, forty frames: each pair of frames is what one of the words is said by. */
  private static void theRowOfAllThatFits() {
    SoundWords x = clear();
    for (int w = 0; w < 8; w++) {
      x.word(w % 6, w / 6, -1, -1);
      x.way(w, w / 6, w % 6, 5, 5);
    }
    for (int f = 0; f < 40; f++) {
      int w = f / 2 * 5 % 8;
      x.feed(f % 2 == 0 ? w % 6 : w / 6);
    }
    due("row: of forty frames", x.least(), 40);
    due("row: of twenty words", x.rowSize(), 20);
    for (int i = 0; i < 20; i++) {
      due("row: word " + i, x.rowAt(i), i * 5 % 8);
    }
    due("row: beside it", x.beside(), 40 + 24);
    for (int w = 0; w < 8; w++) {
      x.grammar(w, -1, -1);
    }
    due("row: none of the eight may end it", x.least(), NOT);
  }

  private static void rowAt() {
    SoundWords x = new SoundWords();
    due("rowAt: NOT goes ahead of BAD", x.rowAt(-1), NOT);
    due("rowAt: NOT goes ahead of BAD", x.rowAt(HIGH), NOT);
    x.word(0, -1, -1, -1);
    x.word(1, -1, -1, -1);
    x.cost(1, 3, 0);
    feedAll(x, 0, 3, 0);
    row("rowAt", x, 0, 1, 0);
    for (int wrong : new int[] {LOW, -1, 3, 40, 41, HIGH}) {
      due("rowAt: there are not so many", x.rowAt(wrong), BAD);
    }
    x.cost(1, 3, 50);
    row("rowAt: after a change", x, 0, 0, 0);
    x.hush();
    due("rowAt: no frames", x.rowAt(0), NOT);
  }

  private static void beside() {
    SoundWords x = new SoundWords();
    due("beside: nothing", x.beside(), NOT);
    x.word(0, -1, -1, -1);
    feedAll(x, 0, 0);
    due("beside: one word alone", x.beside(), NONE);
    x.word(1, -1, -1, -1);
    due("beside: costs the same", x.beside(), 50);
    x.grammar(-1, 1, 4);
    due("beside: the row, but for its first word", x.beside(), 54);
    x.grammar(1, 1, 5);
    x.cost(1, 0, 20);
    due("beside: least", x.least(), 25 + 20);
    due("beside: goes on with another word", x.beside(), 20 + 20 + 1 + 4);
    x.grammar(-1, 0, 5);
    row("beside: the row begins with 1 now", x, 1);
    due("beside: so another one begins with 0", x.beside(), 50);
    x.grammar(-1, 0, -1);
    due("beside: barred", x.beside(), NONE);
    x.grammar(-1, 1, -1);
    due("beside: no reading", x.beside(), NOT);
  }

  private static void say() {
    SoundWords x = new SoundWords();
    due("say: no words", x.say(0), BAD);
    x.word(0, -1, -1, -1);
    x.word(1, -1, -1, -1);
    for (int wrong : new int[] {LOW, -1, 2, HIGH}) {
      due("say: no such word", x.say(wrong), BAD);
    }
    for (int i = 0; i < 12; i++) {
      due("say: how many", x.say(i % 2), i + 1);
    }
    due("say: a thirteenth", x.say(0), FULL);
    due("say: BAD goes ahead of FULL", x.say(2), BAD);
    due("say: twelve", x.count(2), 12);
    for (int f = 0; f < 12; f++) {
      x.feed(f % 2);
    }
    x.cost(0, 0, 0);
    x.cost(1, 1, 0);
    due("say: what was told, in its order", x.lay(), 0);
  }

  private static void unsay() {
    SoundWords x = new SoundWords();
    due("unsay: none", x.unsay(), 0);
    x.word(0, -1, -1, -1);
    sayAll(x, 0, 0, 0);
    due("unsay: three", x.unsay(), 3);
    due("unsay: empty", x.count(2), 0);
    due("unsay: again", x.unsay(), 0);
    due("unsay: say begins anew", x.say(0), 1);
  }

  private static void lay() {
    SoundWords x = clear();
    due("lay: nothing", x.lay(), NOT);
    x.word(0, 1, -1, -1);
    x.word(2, -1, -1, -1);
    feedAll(x, 0, 1);
    due("lay: no row told", x.lay(), NOT);
    due("lay: nothing is laid", x.count(4), 0);
    x.say(0);
    due("lay: the word", x.lay(), 2);
    due("lay: something is laid", x.count(4), 1);
    x.say(1);
    due("lay: too few frames", x.lay(), NOT);
    feedAll(x, 2);
    due("lay: enough frames", x.lay(), 3);
    feedAll(x, 2, -1);
    due("lay: all frames", x.lay(), 3 + 1 + 1 + 10 + 1);
    x.grammar(-1, 0, 10);
    x.grammar(0, 1, 20);
    x.grammar(1, -1, 40);
    x.grammar(-1, 1, 100);
    x.grammar(0, -1, 100);
    due("lay: with the grammar of the row", x.lay(), 16 + 70);
    x.grammar(1, -1, -1);
    due("lay: barred to end", x.lay(), NOT);
    x.grammar(1, -1, 0);
    x.grammar(0, 1, -1);
    due("lay: barred to follow", x.lay(), NOT);
    x.grammar(0, 1, 0);
    x.grammar(-1, 0, -1);
    due("lay: barred to begin", x.lay(), NOT);
    due("lay: nothing is laid any more", x.count(4), 0);
    x.grammar(-1, 0, 0);
    x.hush();
    due("lay: no frames", x.lay(), NOT);
    longestTold();
  }

  private static void longestTold() {
    SoundWords x = new SoundWords();
    x.word(0, 0, 0, 0);
    x.way(0, 1, 1, 1, -1);
    for (int f = 0; f < 40; f++) {
      x.feed(-1);
    }
    for (int i = 0; i < 12; i++) {
      x.say(0);
    }
    due("lay: twelve words on forty frames", x.lay(), 400);
    int fours = 0;
    for (int f = 0; f < 40; f++) {
      fours += x.laid(f, 2) == 0 ? 1 : 0;
    }
    due("lay: four by way 0, eight by way 1", fours, 16);
    due("lay: the first by way 0", x.laid(15, 2), 0);
    due("lay: the others by way 1", x.laid(16, 2), 1);
    due("lay: the last word", x.laid(39, 1), 11);
  }

  private static void layTakesTheFirstOfSeveral() {
    SoundWords x = new SoundWords();
    x.word(0, 0, 0, -1);
    x.word(1, 1, -1, -1);
    feedAll(x, 0, 0, 0, 0, 0, 0, 0);
    sayAll(x, 0, 1);
    due("lay: costs", x.lay(), 7 * 25 + 2);
    laidRow("lay: each sound begins as early as it may", x, 0, 0, 0, 0, 1, 1, 1, 1);
    laidRow("lay: so does the next word", x, 1, 0, 0, 0, 1, 1, 1, 1);
    x.way(1, 2, -1, -1, -1);
    due("lay: way 0 is cheaper", x.lay(), 7 * 25 + 2);
    laidRow("lay: way 0", x, 2, 0, 0, 0, 0, 0, 0, 0);
    x.stay(0);
    due("lay: both ways cost the same", x.lay(), 7 * 25);
    laidRow("lay: way 0 goes ahead", x, 2, 0, 0, 0, 0, 0, 0, 0);
    x.cost(2, 0, 24);
    due("lay: way 1 is cheaper", x.lay(), 3 * 25 + 4 * 24);
    laidRow("lay: way 1", x, 2, 0, 0, 0, 1, 1, 1, 1);
    laidRow("lay: the sound of way 1", x, 0, 0, 0, 0, 2, 2, 2, 2);
    firstWayGoesAheadOfEarlyBeginnings();
  }

  /** By way 0 the next word begins later; but the way of the first word is asked first. */
  private static void firstWayGoesAheadOfEarlyBeginnings() {
    SoundWords x = new SoundWords();
    x.word(0, 0, 0, -1);
    x.way(0, 0, -1, -1, -1);
    x.word(0, -1, -1, -1);
    x.stay(0);
    feedAll(x, 3, 3, 3, 3);
    sayAll(x, 0, 1);
    due("lay: all cost the same", x.lay(), 100);
    laidRow("lay: way 0 first", x, 2, 0, 0, 0, 0);
    laidRow("lay: the next word behind it", x, 1, 0, 0, 0, 1);
    x.unsay();
    sayAll(x, 1, 0);
    due("lay: all cost the same", x.lay(), 100);
    laidRow("lay: the next word's beginning ahead of its way", x, 1, 0, 1, 1, 1);
    laidRow("lay: then its way", x, 2, 0, 0, 0, 0);
    feedAll(x, 3, 3);
    x.lay();
    laidRow("lay: the last sound takes what is left", x, 1, 0, 1, 1, 1, 1, 1);
  }

  private static void laid() {
    SoundWords x = new SoundWords();
    due("laid: no such frame goes ahead of NOT", x.laid(0, 0), BAD);
    feedAll(x, 0, 0);
    due("laid: nothing is laid", x.laid(1, 2), NOT);
    due("laid: BAD goes ahead of NOT", x.laid(2, 0), BAD);
    due("laid: BAD goes ahead of NOT", x.laid(0, 3), BAD);
    x = withLaid();
    laidRow("laid: sounds", x, 0, 0, 1, 1);
    laidRow("laid: places", x, 1, 0, 0, 0);
    laidRow("laid: ways", x, 2, 0, 0, 0);
    for (int wrong : new int[] {LOW, -1, 3, 40, HIGH}) {
      due("laid: no such frame", x.laid(wrong, 0), BAD);
      due("laid: no such thing", x.laid(0, wrong), BAD);
    }
    x.unsay();
    due("laid: no more", x.laid(0, 0), NOT);
    sayAll(x, 1, 0);
    x.cost(2, 1, 0);
    x.lay();
    laidRow("laid: places of two", x, 1, 0, 1, 1);
    laidRow("laid: the second way of the second word", x, 2, 0, 0, 0);
    x.stay(0);
    x.cost(0, 1, 50);
    x.feed(1);
    due("laid: way 1 costs", x.lay(), 25 + 10 + 0 + 0);
    laidRow("laid: places", x, 1, 0, 1, 1, 1);
    laidRow("laid: the second way of the second word", x, 2, 0, 1, 1, 1);
    laidRow("laid: its sound", x, 0, 1, 2, 2, 2);
  }

  /** Calls that end what is LAID are 0 .. 10, others 11 .. */
  private static int call(SoundWords x, int which) {
    switch (which) {
      case 0: return x.feed(-1);
      case 1: return x.hush();
      case 2: return x.cost(5, 7, 25);
      case 3: return x.stay(1);
      case 4: return x.word(5, -1, -1, -1);
      case 5: return x.way(1, 5, -1, -1, -1);
      case 6: return x.grammar(1, 1, 0);
      case 7: return x.say(1);
      case 8: return x.unsay();
      case 9: return x.renew();
      case 10: return x.grammar(-1, 1, 3);
      case 11: return x.feed(8);
      case 12: return x.cost(6, 0, 0);
      case 13: return x.stay(21);
      case 14: return x.word(-1, -1, -1, -1);
      case 15: return x.way(0, 5, -1, -1, -1);
      case 16: return x.grammar(-1, -1, 0);
      case 17: return x.say(2);
      case 18: return x.ears(2, 2, 2);
      case 19: return x.teach();
      case 20: return x.unteach();
      case 21: return x.least();
      case 22: return x.beside();
      case 23: return x.edits();
      case 24: return x.spot(0, 0);
      case 25: return x.speech(0);
      case 26: return x.taught(0, 0);
      case 27: return x.rowAt(0);
      default: return x.lay();
    }
  }

  private static void whatEndsWhatIsLaid() {
    for (int which = 0; which <= 28; which++) {
      SoundWords x = withLaid();
      due("laid: ahead of call " + which, x.count(4), 1);
      boolean isRefused = call(x, which) < 0;
      boolean ends = which <= 10;
      if (ends) {
        check.holds("laid: call " + which + " is not refused", !isRefused);
      }
      due("laid: behind call " + which, x.count(4), ends ? 0 : 1);
      if (which != 1) {
        due("laid: frame 1 behind call " + which, x.laid(1, 0), ends ? NOT : 1);
      }
      due("laid: teach behind call " + which, x.teach(), ends ? NOT : 2);
    }
    fullCallsEndNothing();
  }

  private static void fullCallsEndNothing() {
    SoundWords x = new SoundWords();
    for (int w = 0; w < 8; w++) {
      x.word(0, -1, -1, -1);
    }
    for (int f = 0; f < 40; f++) {
      x.feed(0);
    }
    for (int i = 0; i < 12; i++) {
      x.say(7);
    }
    due("laid: all full", x.lay(), 40 * 25 + 28);
    due("laid: feed", x.feed(0), FULL);
    due("laid: word", x.word(0, -1, -1, -1), FULL);
    due("laid: say", x.say(7), FULL);
    due("laid: stays behind what is FULL", x.count(4), 1);
    due("laid: the last word begins early", x.laid(11, 1), 11);
  }

  private static void edits() {
    SoundWords x = clear();
    due("edits: no reading", x.edits(), NOT);
    for (int w = 0; w < 5; w++) {
      x.word(w, -1, -1, -1);
    }
    sayAll(x, 0, 1);
    due("edits: no frames", x.edits(), NOT);
    feedAll(x, 0, 1, 2, 3);
    row("edits", x, 0, 1, 2, 3);
    due("edits: two put in", x.edits(), 2);
    x.unsay();
    due("edits: all put in", x.edits(), 4);
    sayAll(x, 0, 1, 2, 3);
    due("edits: none", x.edits(), 0);
    x.say(4);
    due("edits: one taken out", x.edits(), 1);
    x.unsay();
    sayAll(x, 0, 4, 2, 3);
    due("edits: one changed", x.edits(), 1);
    x.unsay();
    sayAll(x, 1, 2, 3, 0);
    due("edits: one taken out, one put in", x.edits(), 2);
    x.unsay();
    sayAll(x, 3, 2, 1, 0);
    due("edits: all the other way round", x.edits(), 4);
    x.unsay();
    sayAll(x, 4, 0, 4, 1, 4, 2, 4, 3, 4, 4, 4, 4);
    due("edits: eight taken out", x.edits(), 8);
    x.hush();
    for (int f = 0; f < 40; f++) {
      x.feed(f % 2);
    }
    due("edits: of forty", x.edits(), 38);
    x.unsay();
    due("edits: of forty and none", x.edits(), 40);
  }

  private static void teach() {
    SoundWords x = new SoundWords();
    due("teach: nothing is laid", x.teach(), NOT);
    x = withLaid();
    due("teach: frames that are not lost", x.teach(), 2);
    due("teach: sound 0 as mark 0", x.taught(0, 0), 1);
    due("teach: sound 1 as mark 1", x.taught(1, 1), 1);
    due("teach: sound 1 as mark 0", x.taught(1, 0), 0);
    due("teach: what is laid stays", x.count(4), 1);
    due("teach: once more", x.teach(), 2);
    due("teach: counts go on", x.taught(0, 0), 2);
    due("teach: two are kept", x.count(3), 2);
    x.cost(0, 0, 1);
    due("teach: nothing is laid any more", x.teach(), NOT);
    due("teach: nothing has changed", x.count(3), 2);
    due("teach: nothing has changed", x.taught(0, 0), 2);
    x.hush();
    x.feed(-1);
    x.lay();
    x.unsay();
    x.say(1);
    due("teach: lost frames alone", x.lay(), 10);
    due("teach: none is counted", x.teach(), 0);
    due("teach: it is kept all the same", x.count(3), 3);
    due("teach: and can be taken back", x.unteach(), 0);
    due("teach: two are kept", x.count(3), 2);
  }

  private static void unteach() {
    SoundWords x = withLaid();
    due("unteach: none is kept", x.unteach(), NOT);
    x.teach();
    x.hush();
    feedAll(x, 0, 0, 1);
    x.lay();
    due("unteach: another teaching", x.teach(), 3);
    due("unteach: both are counted", x.taught(0, 0), 3);
    due("unteach: the latest", x.unteach(), 3);
    due("unteach: sound 0 as mark 0", x.taught(0, 0), 1);
    due("unteach: sound 1 as mark 1", x.taught(1, 1), 1);
    due("unteach: one is kept", x.count(3), 1);
    due("unteach: the one ahead of it", x.unteach(), 2);
    due("unteach: no counts", x.taught(0, 0), 0);
    due("unteach: none is kept", x.unteach(), NOT);
    due("unteach: what is laid stays", x.count(4), 1);
    theEldestAreForgotten();
  }

  /** Teaching n has n frames; of twenty, 5 .. 20 are kept. */
  private static void theEldestAreForgotten() {
    SoundWords x = new SoundWords();
    x.word(0, -1, -1, -1);
    x.say(0);
    for (int n = 1; n <= 20; n++) {
      x.feed(n % 8);
      x.lay();
      due("unteach: a teaching of as many frames", x.teach(), n);
      due("unteach: kept", x.count(3), Math.min(n, 16));
    }
    for (int n = 20; n > 12; n--) {
      due("unteach: the latest first", x.unteach(), n);
    }
    due("unteach: eight are left", x.count(3), 8);
    x.teach();
    due("unteach: one more", x.count(3), 9);
    due("unteach: it goes first", x.unteach(), 20);
    for (int n = 12; n > 4; n--) {
      due("unteach: the latest first", x.unteach(), n);
    }
    due("unteach: the eldest are forgotten", x.unteach(), NOT);
    due("unteach: and stay", x.taught(0, 1), 4);
    due("unteach: and stay", x.taught(0, 4), 1);
    due("unteach: no more than they", x.taught(0, 5), 0);
  }

  private static void taught() {
    SoundWords x = new SoundWords();
    due("taught: at first", x.taught(5, 7), 0);
    for (int wrong : new int[] {LOW, -1, 6, HIGH}) {
      due("taught: no such sound", x.taught(wrong, 0), BAD);
    }
    for (int wrong : new int[] {LOW, -1, 8, HIGH}) {
      due("taught: no such mark", x.taught(0, wrong), BAD);
    }
    x.word(5, -1, -1, -1);
    x.say(0);
    feedAll(x, 7, 7, 6, -1);
    x.lay();
    x.teach();
    due("taught: two", x.taught(5, 7), 2);
    due("taught: one", x.taught(5, 6), 1);
    due("taught: none", x.taught(5, 0), 0);
    due("taught: none of another sound", x.taught(4, 7), 0);
    x.hush();
    x.unsay();
    x.renew();
    due("taught: counts stay", x.taught(5, 7), 2);
  }

  private static void renew() {
    SoundWords x = new SoundWords();
    x.cost(1, 1, 3);
    due("renew: no sound has counts", x.renew(), 0);
    due("renew: nothing has changed", x.cost(1, 1, 3), 3);
    x.word(0, -1, -1, -1);
    x.word(5, -1, -1, -1);
    feedAll(x, 0, 1, 1, 7, 7, 7);
    sayAll(x, 0);
    x.lay();
    x.teach();
    due("renew: one sound", x.renew(), 1);
    int[] due = {41, 33, 50, 50, 50, 50, 50, 25};
    for (int mark = 0; mark < 8; mark++) {
      due("renew: cut", x.cost(0, mark, due[mark]), due[mark]);
      due("renew: no other sound", x.cost(5, mark, 25), 25);
    }
    due("renew: no sound without counts", x.cost(1, 1, 3), 3);
    x.cost(0, 0, 2);
    due("renew: again", x.renew(), 1);
    due("renew: from the counts alone", x.cost(0, 0, 41), 41);
    due("renew: readings pay no more than the other sound costs", x.least(), 6 * 25);
    x.grammar(-1, 1, -1);
    due("renew: readings pay it", x.least(), 41 + 5 * 25);
    x.grammar(0, 1, -1);
    due("renew: readings pay it", x.least(), 41 + 33 + 33 + 3 * 25);
    x.grammar(-1, 1, 0);
    x.unsay();
    x.say(1);
    x.lay();
    x.teach();
    due("renew: two sounds", x.renew(), 2);
    due("renew: the second", x.cost(5, 1, 33), 33);
    x.unteach();
    due("renew: one sound again", x.renew(), 1);
    due("renew: what has no counts keeps its cost", x.cost(5, 1, 33), 33);
    x.unteach();
    due("renew: none", x.renew(), 0);
    due("renew: nor does the first change", x.cost(0, 0, 41), 41);
    due("renew: a sound of one mark alone", oneMarkRenewed(), 0);
  }

  private static int oneMarkRenewed() {
    SoundWords x = new SoundWords();
    x.word(2, -1, -1, -1);
    x.say(0);
    x.feed(4);
    x.lay();
    x.teach();
    x.renew();
    return x.cost(2, 4, 0);
  }

  private static void spotted(String what, SoundWords x, int word, int i, int j, int cost) {
    due(what + ": i", x.spot(word, 0), i);
    due(what + ": j", x.spot(word, 1), j);
    due(what + ": cost", x.spot(word, 2), cost);
  }

  private static void spot() {
    SoundWords x = clear();
    due("spot: no words", x.spot(0, 0), BAD);
    x.word(0, 1, -1, -1);
    x.word(2, -1, -1, -1);
    for (int wrong : new int[] {LOW, -1, 3, HIGH}) {
      due("spot: no such word", x.spot(wrong == 3 ? 2 : wrong, 0), BAD);
      due("spot: no such thing", x.spot(0, wrong), BAD);
    }
    due("spot: no frames", x.spot(0, 0), NOT);
    feedAll(x, 3);
    due("spot: too few frames", x.spot(0, 2), NOT);
    spotted("spot: one is enough", x, 1, 0, 1, 25);
    feedAll(x, 0, 0, 1, 3);
    spotted("spot: without staying", x, 0, 2, 4, 2);
    x.stay(0);
    spotted("spot: a frame more costs no more a frame, but begins earlier", x, 0, 1, 4, 3);
    x.grammar(-1, 0, -1);
    x.grammar(0, -1, 100);
    spotted("spot: without grammar", x, 0, 1, 4, 3);
    feedAll(x, 0, 1);
    spotted("spot: the least i", x, 0, 1, 4, 3);
    feedAll(x, 1);
    spotted("spot: the least i", x, 0, 1, 4, 3);
    x.way(0, 3, -1, -1, -1);
    spotted("spot: the least i by another way", x, 0, 0, 1, 1);
    leastJ();
    costAFrameIsAFraction();
    atMostTwentyFrames();
  }

  private static void leastJ() {
    SoundWords x = clear();
    x.stay(0);
    x.word(0, -1, -1, -1);
    feedAll(x, 0, 0, 0);
    spotted("spot: the least j", x, 0, 0, 1, 1);
    x.cost(0, 0, 0);
    spotted("spot: the least j for nothing", x, 0, 0, 1, 0);
  }

  private static void costAFrameIsAFraction() {
    SoundWords x = new SoundWords();
    x.word(0, 1, -1, -1);
    x.stay(0);
    x.cost(0, 0, 5);
    x.cost(1, 1, 4);
    feedAll(x, 0, 1, 1);
    spotted("spot: 13 by 3 is less than 9 by 2", x, 0, 0, 3, 13);
    x.cost(1, 1, 5);
    spotted("spot: 15 by 3 is not less than 10 by 2", x, 0, 0, 2, 10);
    x.cost(1, 1, 6);
    spotted("spot: 17 by 3 is more than 11 by 2", x, 0, 0, 2, 11);
  }

  private static void atMostTwentyFrames() {
    SoundWords x = new SoundWords();
    x.word(0, 1, -1, -1);
    x.stay(0);
    x.cost(0, 0, 30);
    x.cost(0, 1, 50);
    x.cost(1, 0, 50);
    x.cost(1, 1, 1);
    x.feed(0);
    for (int f = 1; f < 40; f++) {
      x.feed(1);
    }
    spotted("spot: twenty at most", x, 0, 0, 20, 49);
    x.hush();
    for (int f = 0; f < 20; f++) {
      x.feed(1);
    }
    x.feed(0);
    for (int f = 21; f < 40; f++) {
      x.feed(1);
    }
    spotted("spot: the last twenty", x, 0, 20, 40, 49);
  }

  private static void ears() {
    SoundWords x = new SoundWords();
    for (int wrong : new int[] {LOW, -1, 0, 10, HIGH}) {
      due("ears: no such level", x.ears(wrong, 1, 1), BAD);
      due("ears: no such rise", x.ears(1, wrong, 1), BAD);
      due("ears: no such fall", x.ears(1, 1, wrong), BAD);
    }
    due("ears: no such level", x.ears(8, 1, 1), BAD);
    due("ears: no such rise", x.ears(1, 6, 1), BAD);
    feedAll(x, 1, 0, 1, 1, 0, 0, 1, 0, 0, 0);
    due("ears: as at first", x.speech(0), 2);
    due("ears: as at first", x.speech(1), 7);
    due("ears: least", x.ears(1, 1, 1), 1);
    due("ears: least", x.speech(0), 0);
    due("ears: least", x.speech(1), 1);
    due("ears: most", x.ears(7, 5, 9), 1);
    due("ears: most", x.speech(0), NOT);
    due("ears: wrong ones change nothing", x.ears(1, 1, 10), BAD);
    due("ears: wrong ones change nothing", x.speech(0), NOT);
  }

  private static void speech() {
    SoundWords x = new SoundWords();
    for (int wrong : new int[] {LOW, -1, 2, HIGH}) {
      due("speech: BAD goes ahead of NOT", x.speech(wrong), BAD);
    }
    due("speech: no frames", x.speech(1), NOT);
    feedAll(x, 7);
    due("speech: one is not two", x.speech(0), NOT);
    feedAll(x, -1, 7);
    due("speech: a lost one is not loud", x.speech(0), NOT);
    feedAll(x, 1);
    due("speech: begins with the first of two", x.speech(0), 2);
    due("speech: ends with the frames", x.speech(1), 4);
    feedAll(x, 0, -1);
    due("speech: two that are not loud are not three", x.speech(1), 6);
    feedAll(x, 0);
    due("speech: ends behind the last loud one", x.speech(1), 4);
    feedAll(x, 5, 5);
    due("speech: does not begin again", x.speech(0), 2);
    due("speech: nor end again", x.speech(1), 4);
    x.ears(5, 2, 3);
    due("speech: the level itself is loud", x.speech(0), 7);
    due("speech: to the end", x.speech(1), 9);
    x.ears(6, 1, 9);
    due("speech: below the level is not", x.speech(0), 0);
    due("speech: eight are not nine", x.speech(1), 9);
    x.ears(1, 3, 1);
    due("speech: three side by side", x.speech(0), NOT);
    fullRowOfSpeech();
    framesThatWereHushedAreNotHeard();
  }

  private static void fullRowOfSpeech() {
    SoundWords x = new SoundWords();
    x.ears(3, 5, 9);
    for (int f = 0; f < 35; f++) {
      x.feed(2);
    }
    for (int f = 35; f < 40; f++) {
      due("speech: not yet", x.speech(0), NOT);
      x.feed(3);
    }
    due("speech: the last five", x.speech(0), 35);
    due("speech: to the end", x.speech(1), 40);
  }

  private static void framesThatWereHushedAreNotHeard() {
    SoundWords x = new SoundWords();
    feedAll(x, 0, 5, 5, 5);
    x.hush();
    feedAll(x, 0, 5);
    due("speech: one loud frame, and what was hushed", x.speech(0), NOT);
    x.hush();
    feedAll(x, 5, 5, 0, 0);
    due("speech: two quiet frames, and what was hushed", x.speech(1), 4);
    x.hush();
    for (int f = 0; f < 40; f++) {
      x.feed(0);
    }
    due("speech: forty quiet frames", x.speech(0), NOT);
  }

  private static void count() {
    SoundWords x = withLaid();
    due("count: frames", x.count(0), 3);
    due("count: words", x.count(1), 2);
    due("count: told", x.count(2), 1);
    due("count: teachings", x.count(3), 0);
    due("count: laid", x.count(4), 1);
    x.teach();
    x.teach();
    x.say(1);
    due("count: frames", x.count(0), 3);
    due("count: words", x.count(1), 2);
    due("count: told", x.count(2), 2);
    due("count: teachings", x.count(3), 2);
    due("count: laid", x.count(4), 0);
    for (int wrong : new int[] {LOW, -1, 5, HIGH}) {
      due("count: no such thing", x.count(wrong), BAD);
    }
  }
}
