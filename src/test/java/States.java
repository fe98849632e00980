/** Objects in states that many cases begin with. */
final class States {
  private States() {}

  static SoundWords blank() {
    return new SoundWords();
  }

  static SoundWords feed(SoundWords x, int... marks) {
    for (int mark : marks) {
      x.feed(mark);
    }
    return x;
  }

  static SoundWords feedTimes(SoundWords x, int times, int mark) {
    for (int f = 0; f < times; f++) {
      x.feed(mark);
    }
    return x;
  }

  static SoundWords say(SoundWords x, int... words) {
    for (int w : words) {
      x.say(w);
    }
    return x;
  }

  static SoundWords sayTimes(SoundWords x, int times, int word) {
    for (int i = 0; i < times; i++) {
      x.say(word);
    }
    return x;
  }

  static SoundWords teachTimes(SoundWords x, int times) {
    for (int n = 0; n < times; n++) {
      x.teach();
    }
    return x;
  }

  /** Sounds 0 .. 5 show as the marks of their numbers for 1; all else costs 25, as at first. */
  static SoundWords sharp() {
    SoundWords x = new SoundWords();
    for (int sound = 0; sound < 6; sound++) {
      x.cost(sound, sound, 1);
    }
    return x;
  }

  /** Word w is sound w alone. */
  static SoundWords sharpWords(int words) {
    SoundWords x = sharp();
    for (int w = 0; w < words; w++) {
      x.word(w, -1, -1, -1);
    }
    return x;
  }

  /** One word, sound 0 alone, told as the row; nothing fed yet. */
  static SoundWords oneWordTold() {
    SoundWords x = new SoundWords();
    x.word(0, -1, -1, -1);
    x.say(0);
    return x;
  }

  /** The one word told and LAID on so many frames of mark 0. */
  static SoundWords oneWordLaid(int frames) {
    SoundWords x = feedTimes(oneWordTold(), frames, 0);
    x.lay();
    return x;
  }

  /** Something of all: three words (one with two ways), six frames, a told row that is LAID, two teachings. */
  static SoundWords some() {
    SoundWords x = sharp();
    x.cost(2, 7, 0);
    x.cost(5, 6, 50);
    x.stay(2);
    x.word(0, 1, -1, -1);
    x.way(0, 2, -1, -1, -1);
    x.word(1, -1, -1, -1);
    x.word(3, 4, 5, 0);
    x.grammar(-1, 1, 3);
    x.grammar(0, 1, 4);
    x.grammar(1, -1, 5);
    x.grammar(2, 2, -1);
    x.ears(2, 1, 4);
    feed(x, 0, -1, 1, 2, 7, 1);
    say(x, 0, 1);
    x.lay();
    return teachTimes(x, 2);
  }

  /** All full: 8 words with two ways, 40 frames, 12 words told and LAID, 17 teachings of which 16 are kept. */
  static SoundWords full() {
    SoundWords x = sharp();
    x.stay(3);
    for (int w = 0; w < 8; w++) {
      x.word(w % 6, w / 6, -1, -1);
      x.way(w, (w + 3) % 6, -1, -1, -1);
    }
    x.grammar(-1, 7, 9);
    x.grammar(7, 7, 8);
    x.grammar(7, -1, 100);
    x.grammar(0, 7, -1);
    x.ears(7, 5, 9);
    for (int f = 0; f < 40; f++) {
      x.feed(f % 9 - 1);
    }
    say(x, 0, 1, 2, 3, 4, 5, 6, 7, 7, 6, 5, 0);
    x.lay();
    return teachTimes(x, 17);
  }
}
