import java.util.Random;

/** Runs of random calls, each put to the program and to the slow telling of the document. */
public final class SlowWordsTest {
  private static final Check check = new Check();
  private static final int CALLS = 512;

  private final Random random;
  private final int run;
  /** How many frames a run gathers before it hushes. */
  private final int frames;
  /** Small numbers make many readings that cost the same. */
  private final int most;
  private final SoundWords quick = new SoundWords();
  private final SlowWords slow = new SlowWords();

  private SlowWordsTest(int run, int frames, int most) {
    this.random = new Random(7919L * run + frames);
    this.run = run;
    this.frames = frames;
    this.most = most;
  }

  public static void main(String[] args) {
    for (int run = 0; run < 400 && check.isRight(); run++) {
      new SlowWordsTest(run, 1 + run % 9, 1 + run % 4).play();
    }
    for (int run = 400; run < 460 && check.isRight(); run++) {
      new SlowWordsTest(run, 9 + run % 12, run % 3 == 0 ? 50 : 1 + run % 4).play();
    }
    for (int run = 460; run < 472 && check.isRight(); run++) {
      new SlowWordsTest(run, 45, run % 2 == 0 ? 2 : 50).play();
    }
    check.end();
  }

  private void play() {
    for (int call = 0; call < CALLS; call++) {
      if (quick.count(0) >= frames && random.nextInt(frames + 4) == 0) {
        due("hush()", quick.hush(), slow.hush());
      }
      int kind = random.nextInt(100);
      if (kind < 45) {
        tell(kind);
      } else if (kind < 60) {
        read(kind);
      } else if (kind < 78) {
        sayAndLay(kind);
      } else if (kind < 90) {
        teach(kind);
      } else {
        spotAndHear(kind);
      }
    }
  }

  /** Mostly a number from low to high; now and then one beside them. */
  private int about(int low, int high) {
    if (random.nextInt(40) == 0) {
      return random.nextBoolean() ? low - 1 - random.nextInt(2) : high + 1 + random.nextInt(2);
    }
    return low + random.nextInt(Math.max(1, high - low + 1));
  }

  private int someWord() {
    return about(0, quick.count(1) - 1);
  }

  private int someWordOrEdge() {
    return random.nextInt(4) == 0 ? -1 : someWord();
  }

  private int price(int bound) {
    return random.nextInt(30) == 0 ? about(0, bound) : random.nextInt(Math.min(bound, most) + 1);
  }

  private int[] someSounds() {
    int[] sounds = {-1, -1, -1, -1};
    int length = about(1, 4);
    for (int k = 0; k < length && k < 4; k++) {
      sounds[k] = about(0, 5);
    }
    if (random.nextInt(40) == 0) {
      sounds[random.nextInt(4)] = -1;
    }
    return sounds;
  }

  private void tell(int kind) {
    if (kind < 26) {
      if (quick.count(0) < frames) {
        int mark = random.nextInt(6) == 0 ? -1 : about(0, 7);
        due("feed(" + mark + ")", quick.feed(mark), slow.feed(mark));
      }
    } else if (kind < 34) {
      int sound = about(0, 5);
      int mark = about(0, 7);
      int v = price(50);
      due("cost(" + sound + ", " + mark + ", " + v + ")", quick.cost(sound, mark, v), slow.cost(sound, mark, v));
    } else if (kind < 36) {
      int v = price(20);
      due("stay(" + v + ")", quick.stay(v), slow.stay(v));
    } else if (kind < 38) {
      int[] s = someSounds();
      due("word", quick.word(s[0], s[1], s[2], s[3]), slow.word(s[0], s[1], s[2], s[3]));
    } else if (kind < 40) {
      int[] s = someSounds();
      int w = someWord();
      due("way(" + w + ")", quick.way(w, s[0], s[1], s[2], s[3]), slow.way(w, s[0], s[1], s[2], s[3]));
    } else {
      int a = someWordOrEdge();
      int b = someWordOrEdge();
      int v = random.nextInt(4) == 0 ? -1 : price(100);
      due("grammar(" + a + ", " + b + ", " + v + ")", quick.grammar(a, b, v), slow.grammar(a, b, v));
    }
  }

  private void read(int kind) {
    if (kind < 48) {
      due("least()", quick.least(), slow.least());
    } else if (kind < 51) {
      due("rowSize()", quick.rowSize(), slow.rowSize());
    } else if (kind < 56) {
      int i = about(0, 5);
      due("rowAt(" + i + ")", quick.rowAt(i), slow.rowAt(i));
    } else if (kind < 58) {
      due("beside()", quick.beside(), slow.beside());
    } else {
      due("edits()", quick.edits(), slow.edits());
    }
  }

  private void sayAndLay(int kind) {
    if (kind < 62) {
      int w = someWord();
      due("say(" + w + ")", quick.say(w), slow.say(w));
    } else if (kind < 64) {
      due("unsay()", quick.unsay(), slow.unsay());
    } else if (kind < 70) {
      due("lay()", quick.lay(), slow.lay());
      for (int f = 0; f < quick.count(0); f++) {
        for (int what = 0; what < 3; what++) {
          due("laid(" + f + ", " + what + ")", quick.laid(f, what), slow.laid(f, what));
        }
      }
    } else {
      int f = about(0, quick.count(0) - 1);
      int what = about(0, 2);
      due("laid(" + f + ", " + what + ")", quick.laid(f, what), slow.laid(f, what));
    }
  }

  private void teach(int kind) {
    if (kind < 82) {
      due("lay()", quick.lay(), slow.lay());
      due("teach()", quick.teach(), slow.teach());
      due("teach()", quick.teach(), slow.teach());
    } else if (kind < 84) {
      due("unteach()", quick.unteach(), slow.unteach());
    } else if (kind < 89) {
      int sound = about(0, 5);
      int mark = about(0, 7);
      due("taught(" + sound + ", " + mark + ")", quick.taught(sound, mark), slow.taught(sound, mark));
    } else {
      due("renew()", quick.renew(), slow.renew());
    }
  }

  private void spotAndHear(int kind) {
    if (kind < 93) {
      int w = someWord();
      int what = about(0, 2);
      due("spot(" + w + ", " + what + ")", quick.spot(w, what), slow.spot(w, what));
    } else if (kind < 94) {
      int level = about(1, 7);
      int rise = about(1, 5);
      int fall = about(1, 9);
      due("ears", quick.ears(level, rise, fall), slow.ears(level, rise, fall));
    } else if (kind < 97) {
      int what = about(0, 1);
      due("speech(" + what + ")", quick.speech(what), slow.speech(what));
    } else {
      int what = about(0, 4);
      due("count(" + what + ")", quick.count(what), slow.count(what));
    }
  }

  private void due(String call, int got, int want) {
    check.due("run " + run + ": " + call, got, want);
  }
}
