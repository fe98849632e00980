/** The boundary cases of promises 1 to 8: a new object, and what is told. Each case says in its name what it is. */
public final class TellingCasesTest {
  private static final int NONE = -1, BAD = -2, NOT = -3, FULL = -4;
  private static final int LOW = Integer.MIN_VALUE, HIGH = Integer.MAX_VALUE;

  public static void main(String[] args) throws IllegalAccessException {
    Cases.run(TellingCasesTest.class, 1, 8);
  }

  private static void due(String what, int got, int want) {
    Cases.due(what, got, want);
  }

  // ---- promise 1: a new object

  static void promise01_new_hasNoFrames() {
    SoundWords x = new SoundWords();
    due("count(0)", x.count(0), 0);
    due("laid(0, 0)", x.laid(0, 0), BAD);
    due("speech(0)", x.speech(0), NOT);
    due("hush()", x.hush(), 0);
    due("feed(0)", x.feed(0), 1);
  }

  static void promise01_new_hasNoWords() {
    SoundWords x = new SoundWords();
    due("count(1)", x.count(1), 0);
    due("say(0)", x.say(0), BAD);
    due("spot(0, 0)", x.spot(0, 0), BAD);
    due("way(0, ..)", x.way(0, 0, -1, -1, -1), BAD);
    due("grammar(-1, 0, 0)", x.grammar(-1, 0, 0), BAD);
    due("grammar(0, -1, 0)", x.grammar(0, -1, 0), BAD);
    due("word(..)", x.word(0, -1, -1, -1), 0);
  }

  static void promise01_new_hasNoReading() {
    SoundWords x = new SoundWords();
    due("least()", x.least(), NOT);
    due("rowSize()", x.rowSize(), NOT);
    due("rowAt(0)", x.rowAt(0), NOT);
    due("beside()", x.beside(), NOT);
    due("edits()", x.edits(), NOT);
    due("lay()", x.lay(), NOT);
  }

  static void promise01_new_hasNoCounts() {
    SoundWords x = new SoundWords();
    for (int sound = 0; sound < 6; sound++) {
      for (int mark = 0; mark < 8; mark++) {
        due("taught(" + sound + ", " + mark + ")", x.taught(sound, mark), 0);
      }
    }
    due("renew()", x.renew(), 0);
  }

  static void promise01_new_keepsNoTeaching() {
    SoundWords x = new SoundWords();
    due("count(3)", x.count(3), 0);
    due("unteach()", x.unteach(), NOT);
  }

  static void promise01_new_hasNoRowTold() {
    SoundWords x = new SoundWords();
    due("count(2)", x.count(2), 0);
    due("unsay()", x.unsay(), 0);
    x.word(0, -1, -1, -1);
    due("say(0)", x.say(0), 1);
  }

  static void promise01_new_hasNothingLaid() {
    SoundWords x = new SoundWords();
    due("count(4)", x.count(4), 0);
    due("teach()", x.teach(), NOT);
    x.feed(0);
    due("laid(0, 0)", x.laid(0, 0), NOT);
  }

  static void promise01_new_everyCostIs25() {
    SoundWords x = new SoundWords();
    for (int sound = 0; sound < 6; sound++) {
      for (int mark = 0; mark < 8; mark++) {
        due("cost(" + sound + ", " + mark + ", 0)", x.cost(sound, mark, 0), 25);
      }
    }
  }

  static void promise01_new_aReadingPays25BeforeAnyCostIsTold() {
    for (int sound = 0; sound < 6; sound++) {
      for (int mark = 0; mark < 8; mark++) {
        SoundWords x = new SoundWords();
        x.word(sound, -1, -1, -1);
        x.feed(mark);
        due("sound " + sound + " as mark " + mark, x.least(), 25);
      }
    }
  }

  static void promise01_new_stayIs1() {
    due("stay(0)", new SoundWords().stay(0), 1);
    SoundWords x = States.oneWordTold();
    States.feed(x, 0, 0);
    due("lay()", x.lay(), 25 + 25 + 1);
  }

  static void promise01_new_grammarIs0AndNothingIsBarred() {
    SoundWords x = new SoundWords();
    for (int w = 0; w < 8; w++) {
      x.word(0, -1, -1, -1);
    }
    for (int a = -1; a < 8; a++) {
      for (int b = a == -1 ? 0 : -1; b < 8; b++) {
        due("grammar(" + a + ", " + b + ", 1)", x.grammar(a, b, 1), 0);
      }
    }
  }

  static void promise01_new_levelIs1() {
    due("two of mark 1", States.feed(new SoundWords(), 1, 1).speech(0), 0);
    due("two of mark 0", States.feed(new SoundWords(), 0, 0).speech(0), NOT);
  }

  static void promise01_new_riseIs2() {
    due("one loud frame", States.feed(new SoundWords(), 7).speech(0), NOT);
    due("two loud frames", States.feed(new SoundWords(), 7, 7).speech(0), 0);
  }

  static void promise01_new_fallIs3() {
    due("two that are not loud", States.feed(new SoundWords(), 7, 7, 0, 0).speech(1), 4);
    due("three that are not loud", States.feed(new SoundWords(), 7, 7, 0, 0, 0).speech(1), 2);
  }

  static void promise01_new_isNewBesideAnotherThatIsFull() {
    SoundWords full = States.full();
    SoundWords x = new SoundWords();
    for (int what = 0; what <= 4; what++) {
      due("count(" + what + ")", x.count(what), 0);
    }
    due("cost(0, 0, 25)", x.cost(0, 0, 25), 25);
    due("taught(0, 0)", x.taught(0, 0), 0);
    due("the other is full still", full.count(0), 40);
  }

  static void promise01_new_answersAsDueToTheLastOf512Calls() {
    SoundWords x = States.feedTimes(States.oneWordTold(), 40, 0);
    for (int call = 43; call < 512; call++) {
      due("call " + call, call % 2 == 0 ? x.count(0) : x.feed(0), call % 2 == 0 ? 40 : FULL);
    }
    due("call 512, least()", x.least(), 40 * 25);
  }

  /** What it answers then is free; but it answers. */
  static void promise01_new_answersAtAllBehind512Calls() {
    SoundWords x = States.full();
    int calls = 0;
    for (int n = 0; n < 2000; n++) {
      x.teach();
      x.feed(n % 9 - 1);
      x.least();
      x.lay();
      x.unteach();
      calls += 5;
    }
    due("calls that ended", calls, 10000);
  }

  // ---- promise 2: feed

  static void promise02_feed_mark0IsTaken() {
    SoundWords x = States.oneWordTold();
    x.cost(0, 0, 3);
    due("feed(0)", x.feed(0), 1);
    due("least()", x.least(), 3);
  }

  static void promise02_feed_mark7IsTaken() {
    SoundWords x = States.oneWordTold();
    x.cost(0, 7, 3);
    due("feed(7)", x.feed(7), 1);
    due("least()", x.least(), 3);
  }

  static void promise02_feed_mark8IsBad() {
    Cases.refused(States::blank, BAD, x -> x.feed(8));
    Cases.refused(States::some, BAD, x -> x.feed(8));
  }

  static void promise02_feed_lostIsTaken() {
    SoundWords x = States.oneWordTold();
    due("feed(-1)", x.feed(-1), 1);
    due("count(0)", x.count(0), 1);
    due("least()", x.least(), 10);
  }

  static void promise02_feed_minus2IsBad() {
    Cases.refused(States::blank, BAD, x -> x.feed(-2));
    Cases.refused(States::some, BAD, x -> x.feed(-2));
  }

  static void promise02_feed_marksFarOutAreBad() {
    for (int mark : new int[] {LOW, LOW + 1, -256, -3, 9, 40, 255, 256, HIGH}) {
      Cases.refused(States::some, BAD, x -> x.feed(mark));
    }
  }

  static void promise02_feed_eachMarkIsItself() {
    for (int mark = 0; mark < 8; mark++) {
      SoundWords x = States.oneWordTold();
      x.cost(0, mark, 7);
      x.feed(mark);
      due("mark " + mark, x.least(), 7);
    }
  }

  static void promise02_feed_theFirstAnswers1AndTheFortieth40() {
    SoundWords x = new SoundWords();
    for (int f = 1; f <= 40; f++) {
      due("feed " + f, x.feed(f % 9 - 1), f);
    }
    due("count(0)", x.count(0), 40);
  }

  static void promise02_feed_theFortyFirstIsFull() {
    for (int mark : new int[] {-1, 0, 7}) {
      Cases.refused(States::full, FULL, x -> x.feed(mark));
      Cases.refused(() -> States.feedTimes(new SoundWords(), 40, 3), FULL, x -> x.feed(mark));
    }
  }

  static void promise02_feed_badGoesAheadOfFull() {
    for (int mark : new int[] {LOW, -2, 8, HIGH}) {
      Cases.refused(States::full, BAD, x -> x.feed(mark));
    }
  }

  static void promise02_feed_hasRoomAgainBehindHush() {
    SoundWords x = States.feedTimes(new SoundWords(), 40, 3);
    x.feed(3);
    x.hush();
    for (int f = 1; f <= 40; f++) {
      due("feed " + f, x.feed(3), f);
    }
    due("feed 41", x.feed(3), FULL);
  }

  static void promise02_feed_aLostFrameCosts10ForAnySound() {
    for (int sound = 0; sound < 6; sound++) {
      for (int told : new int[] {0, 25, 50}) {
        SoundWords x = new SoundWords();
        for (int mark = 0; mark < 8; mark++) {
          x.cost(sound, mark, told);
        }
        x.word(sound, -1, -1, -1);
        x.feed(-1);
        due("sound " + sound + " with costs of " + told, x.least(), 10);
      }
    }
  }

  static void promise02_feed_endsWhatIsLaid() {
    Cases.endsWhatIsLaid(States::some, x -> x.feed(0));
    Cases.endsWhatIsLaid(States::some, x -> x.feed(-1));
  }

  static void promise02_feed_theFortiethEndsWhatIsLaid() {
    Cases.endsWhatIsLaid(() -> States.oneWordLaid(39), x -> x.feed(0));
  }

  static void promise02_feed_refusedAsBadKeepsWhatIsLaid() {
    Cases.keepsWhatIsLaid(States::some, x -> x.feed(8));
    Cases.keepsWhatIsLaid(States::some, x -> x.feed(-2));
  }

  static void promise02_feed_refusedAsFullKeepsWhatIsLaid() {
    Cases.keepsWhatIsLaid(States::full, x -> x.feed(0));
  }

  // ---- promise 3: hush

  static void promise03_hush_ofNoneAnswers0() {
    due("hush()", new SoundWords().hush(), 0);
  }

  static void promise03_hush_ofOneAnswers1() {
    SoundWords x = States.feed(new SoundWords(), -1);
    due("hush()", x.hush(), 1);
    due("count(0)", x.count(0), 0);
  }

  static void promise03_hush_ofFortyAnswers40() {
    SoundWords x = States.full();
    due("hush()", x.hush(), 40);
    due("count(0)", x.count(0), 0);
  }

  static void promise03_hush_againAnswers0() {
    SoundWords x = States.some();
    due("hush()", x.hush(), 6);
    due("hush() again", x.hush(), 0);
  }

  static void promise03_hush_leavesNoReading() {
    SoundWords x = States.some();
    due("least() ahead of it", x.least() >= 0 ? 1 : 0, 1);
    x.hush();
    due("least()", x.least(), NOT);
    due("rowSize()", x.rowSize(), NOT);
    due("rowAt(0)", x.rowAt(0), NOT);
    due("beside()", x.beside(), NOT);
    due("edits()", x.edits(), NOT);
    due("lay()", x.lay(), NOT);
    due("spot(0, 0)", x.spot(0, 0), NOT);
    due("speech(0)", x.speech(0), NOT);
    due("laid(0, 0)", x.laid(0, 0), BAD);
  }

  static void promise03_hush_leavesAllElse() {
    SoundWords x = States.some();
    int taught = x.taught(2, 7);
    x.hush();
    due("count(1)", x.count(1), 3);
    due("count(2)", x.count(2), 2);
    due("count(3)", x.count(3), 2);
    due("taught(2, 7)", x.taught(2, 7), taught);
    due("cost(2, 7, 0)", x.cost(2, 7, 0), 0);
    due("stay(2)", x.stay(2), 2);
    due("grammar(2, 2, -1)", x.grammar(2, 2, -1), -1);
    due("way(0, ..)", x.way(0, 0, -1, -1, -1), FULL);
    due("one frame of mark 1 for ears(2, 1, 4)", States.feed(x, 1).speech(0), NOT);
    due("one frame of mark 2 for ears(2, 1, 4)", States.feed(x, 2).speech(0), 1);
  }

  static void promise03_hush_framesThatWereAreNotReadAgain() {
    SoundWords x = States.feed(States.sharpWords(3), 2, 2, 2, 2);
    x.hush();
    States.feed(x, 0, 1);
    due("least()", x.least(), 2);
    due("rowSize()", x.rowSize(), 2);
    due("rowAt(0)", x.rowAt(0), 0);
    due("rowAt(1)", x.rowAt(1), 1);
  }

  static void promise03_hush_endsWhatIsLaid() {
    Cases.endsWhatIsLaid(States::some, SoundWords::hush);
    Cases.endsWhatIsLaid(States::full, SoundWords::hush);
  }

  static void promise03_hush_whatWasLaidStaysEndedWithTheSameFramesAgain() {
    SoundWords x = States.oneWordLaid(2);
    x.hush();
    States.feed(x, 0, 0);
    due("count(4)", x.count(4), 0);
    due("laid(0, 0)", x.laid(0, 0), NOT);
    due("teach()", x.teach(), NOT);
  }

  // ---- promise 4: cost

  static void promise04_cost_sound0IsTaken() {
    SoundWords x = new SoundWords();
    due("cost(0, 3, 4)", x.cost(0, 3, 4), 25);
    due("cost(0, 3, 5)", x.cost(0, 3, 5), 4);
  }

  static void promise04_cost_soundMinus1IsBad() {
    Cases.refused(States::blank, BAD, x -> x.cost(-1, 3, 4));
    Cases.refused(States::some, BAD, x -> x.cost(-1, 3, 4));
  }

  static void promise04_cost_sound5IsTaken() {
    SoundWords x = new SoundWords();
    due("cost(5, 3, 4)", x.cost(5, 3, 4), 25);
    due("cost(5, 3, 5)", x.cost(5, 3, 5), 4);
  }

  static void promise04_cost_sound6IsBad() {
    Cases.refused(States::blank, BAD, x -> x.cost(6, 3, 4));
    Cases.refused(States::some, BAD, x -> x.cost(6, 3, 4));
  }

  static void promise04_cost_mark0IsTaken() {
    SoundWords x = new SoundWords();
    due("cost(3, 0, 4)", x.cost(3, 0, 4), 25);
    due("cost(3, 0, 5)", x.cost(3, 0, 5), 4);
  }

  static void promise04_cost_lostIsNoMarkAndBad() {
    Cases.refused(States::blank, BAD, x -> x.cost(3, -1, 4));
    Cases.refused(States::some, BAD, x -> x.cost(3, -1, 4));
  }

  static void promise04_cost_mark7IsTaken() {
    SoundWords x = new SoundWords();
    due("cost(3, 7, 4)", x.cost(3, 7, 4), 25);
    due("cost(3, 7, 5)", x.cost(3, 7, 5), 4);
  }

  static void promise04_cost_mark8IsBad() {
    Cases.refused(States::blank, BAD, x -> x.cost(3, 8, 4));
    Cases.refused(States::some, BAD, x -> x.cost(3, 8, 4));
  }

  static void promise04_cost_0IsTakenAndPaid() {
    SoundWords x = States.feed(States.oneWordTold(), 2);
    due("cost(0, 2, 0)", x.cost(0, 2, 0), 25);
    due("least()", x.least(), 0);
    due("cost(0, 2, 1)", x.cost(0, 2, 1), 0);
  }

  static void promise04_cost_minus1IsBad() {
    Cases.refused(States::blank, BAD, x -> x.cost(3, 3, -1));
    Cases.refused(States::some, BAD, x -> x.cost(3, 3, -1));
  }

  static void promise04_cost_50IsTakenAndPaid() {
    SoundWords x = States.feed(States.oneWordTold(), 2);
    due("cost(0, 2, 50)", x.cost(0, 2, 50), 25);
    due("least()", x.least(), 50);
    due("cost(0, 2, 1)", x.cost(0, 2, 1), 50);
  }

  static void promise04_cost_51IsBad() {
    Cases.refused(States::blank, BAD, x -> x.cost(3, 3, 51));
    Cases.refused(States::some, BAD, x -> x.cost(3, 3, 51));
  }

  static void promise04_cost_numbersFarOutAreBad() {
    for (int far : new int[] {LOW, LOW + 1, -100, 100, 256, HIGH}) {
      Cases.refused(States::some, BAD, x -> x.cost(far, 3, 4));
      Cases.refused(States::some, BAD, x -> x.cost(3, far, 4));
      Cases.refused(States::some, BAD, x -> x.cost(3, 3, far));
    }
  }

  static void promise04_cost_markBehindTheLastIsNotTheNextSoundsFirst() {
    SoundWords x = new SoundWords();
    due("cost(0, 8, 3)", x.cost(0, 8, 3), BAD);
    due("cost(1, -1, 3)", x.cost(1, -1, 3), BAD);
    due("cost(1, 0, 25)", x.cost(1, 0, 25), 25);
    due("cost(0, 7, 25)", x.cost(0, 7, 25), 25);
  }

  static void promise04_cost_eachOf48StandsByItself() {
    SoundWords x = new SoundWords();
    for (int n = 0; n < 48; n++) {
      due("at first " + n, x.cost(n / 8, n % 8, n), 25);
    }
    for (int n = 0; n < 48; n++) {
      due("then " + n, x.cost(n / 8, n % 8, 50), n);
    }
  }

  static void promise04_cost_aLostFrameStaysAt10() {
    SoundWords x = States.feed(States.oneWordTold(), -1);
    for (int mark = 0; mark < 8; mark++) {
      x.cost(0, mark, 0);
    }
    due("least()", x.least(), 10);
  }

  static void promise04_cost_endsWhatIsLaid() {
    Cases.endsWhatIsLaid(States::some, x -> x.cost(0, 0, 7));
  }

  static void promise04_cost_ofTheNumberThatStoodThereEndsWhatIsLaid() {
    Cases.endsWhatIsLaid(States::some, x -> x.cost(0, 0, 1));
  }

  static void promise04_cost_ofASoundThatNoWordHasEndsWhatIsLaid() {
    Cases.endsWhatIsLaid(() -> States.oneWordLaid(1), x -> x.cost(5, 7, 3));
  }

  static void promise04_cost_refusedKeepsWhatIsLaid() {
    Cases.keepsWhatIsLaid(States::some, x -> x.cost(6, 0, 0));
    Cases.keepsWhatIsLaid(States::some, x -> x.cost(0, 8, 0));
    Cases.keepsWhatIsLaid(States::some, x -> x.cost(0, 0, 51));
  }

  // ---- promise 5: stay

  static void promise05_stay_0IsTakenAndPaid() {
    SoundWords x = States.feed(States.oneWordTold(), 0, 0, 0);
    due("stay(0)", x.stay(0), 1);
    due("lay()", x.lay(), 75);
    due("stay(1)", x.stay(1), 0);
  }

  static void promise05_stay_minus1IsBad() {
    Cases.refused(States::blank, BAD, x -> x.stay(-1));
    Cases.refused(States::some, BAD, x -> x.stay(-1));
  }

  static void promise05_stay_20IsTakenAndPaid() {
    SoundWords x = States.feed(States.oneWordTold(), 0, 0, 0);
    due("stay(20)", x.stay(20), 1);
    due("lay()", x.lay(), 75 + 2 * 20);
    due("stay(1)", x.stay(1), 20);
  }

  static void promise05_stay_21IsBad() {
    Cases.refused(States::blank, BAD, x -> x.stay(21));
    Cases.refused(States::some, BAD, x -> x.stay(21));
  }

  static void promise05_stay_numbersFarOutAreBad() {
    for (int far : new int[] {LOW, LOW + 1, -100, 100, 256, HIGH}) {
      Cases.refused(States::some, BAD, x -> x.stay(far));
    }
  }

  static void promise05_stay_isNotPaidForTheFirstFrameOfASound() {
    SoundWords x = new SoundWords();
    x.word(0, 0, 0, 0);
    x.stay(20);
    States.feed(x, 0, 0, 0, 0);
    due("four sounds on four frames", x.least(), 100);
    x.feed(0);
    due("four sounds on five frames", x.least(), 125 + 20);
  }

  static void promise05_stay_isNotPaidForTheFirstFrameOfTheNextWord() {
    SoundWords x = States.feed(States.sayTimes(States.oneWordTold(), 2, 0), 0, 0, 0);
    x.stay(20);
    due("three words on three frames", x.lay(), 75);
    x.feed(0);
    due("three words on four frames", x.lay(), 100 + 20);
  }

  static void promise05_stay_isPaidForALostFrameToo() {
    SoundWords x = States.feed(States.oneWordTold(), 0, -1);
    x.stay(20);
    due("lay()", x.lay(), 25 + 10 + 20);
  }

  static void promise05_stay_endsWhatIsLaid() {
    Cases.endsWhatIsLaid(States::some, x -> x.stay(7));
  }

  static void promise05_stay_ofTheNumberThatStoodThereEndsWhatIsLaid() {
    Cases.endsWhatIsLaid(States::some, x -> x.stay(2));
  }

  static void promise05_stay_refusedKeepsWhatIsLaid() {
    Cases.keepsWhatIsLaid(States::some, x -> x.stay(21));
    Cases.keepsWhatIsLaid(States::some, x -> x.stay(-1));
  }

  // ---- promise 6: word

  /** The row 0, 0, 0, 0 with one number in the place of one of them, and nothing behind that but -1, if asked. */
  private static int[] rowWith(int place, int number, boolean isLast) {
    int[] row = new int[4];
    for (int k = 0; k < 4; k++) {
      row[k] = k == place ? number : k > place && isLast ? -1 : 0;
    }
    return row;
  }

  private static int word(SoundWords x, int[] row) {
    return x.word(row[0], row[1], row[2], row[3]);
  }

  private static int way(SoundWords x, int word, int[] row) {
    return x.way(word, row[0], row[1], row[2], row[3]);
  }

  private static void wordIsBad(int[] row) {
    Cases.refused(States::blank, BAD, x -> word(x, row));
    Cases.refused(States::some, BAD, x -> word(x, row));
  }

  static void promise06_word_ofOneSoundIsTaken() {
    SoundWords x = States.sharp();
    due("word(3, -1, -1, -1)", x.word(3, -1, -1, -1), 0);
    due("one frame", States.feed(x, 3).least(), 1);
  }

  static void promise06_word_ofNoSoundIsBad() {
    wordIsBad(new int[] {-1, -1, -1, -1});
  }

  static void promise06_word_ofTwoSoundsIsTaken() {
    SoundWords x = States.sharp();
    due("word(3, 4, -1, -1)", x.word(3, 4, -1, -1), 0);
    due("one frame", States.feed(x, 3).least(), NOT);
    due("two frames", States.feed(x, 4).least(), 2);
  }

  static void promise06_word_ofThreeSoundsIsTaken() {
    SoundWords x = States.sharp();
    due("word(3, 4, 5, -1)", x.word(3, 4, 5, -1), 0);
    due("two frames", States.feed(x, 3, 4).least(), NOT);
    due("three frames", States.feed(x, 5).least(), 3);
  }

  static void promise06_word_ofFourSoundsIsTaken() {
    SoundWords x = States.sharp();
    due("word(3, 4, 5, 0)", x.word(3, 4, 5, 0), 0);
    due("three frames", States.feed(x, 3, 4, 5).least(), NOT);
    due("four frames", States.feed(x, 0).least(), 4);
  }

  static void promise06_word_sound0IsTakenInEachPlace() {
    for (int place = 0; place < 4; place++) {
      due("place " + place, word(new SoundWords(), rowWith(place, 0, true)), 0);
    }
  }

  static void promise06_word_sound5IsTakenInEachPlace() {
    for (int place = 0; place < 4; place++) {
      due("last in place " + place, word(new SoundWords(), rowWith(place, 5, true)), 0);
      due("in place " + place, word(new SoundWords(), rowWith(place, 5, false)), 0);
    }
  }

  static void promise06_word_sound6IsBadInEachPlace() {
    for (int place = 0; place < 4; place++) {
      wordIsBad(rowWith(place, 6, true));
      wordIsBad(rowWith(place, 6, false));
    }
  }

  static void promise06_word_soundMinus2IsBadInEachPlace() {
    for (int place = 0; place < 4; place++) {
      wordIsBad(rowWith(place, -2, true));
      wordIsBad(rowWith(place, -2, false));
    }
  }

  static void promise06_word_soundsFarOutAreBadInEachPlace() {
    for (int place = 0; place < 4; place++) {
      for (int far : new int[] {LOW, -100, 7, 100, HIGH}) {
        wordIsBad(rowWith(place, far, false));
      }
    }
  }

  static void promise06_word_minus1AheadOfASoundIsBad() {
    wordIsBad(new int[] {-1, 0, -1, -1});
    wordIsBad(new int[] {-1, 0, 0, 0});
    wordIsBad(new int[] {-1, -1, -1, 0});
    wordIsBad(new int[] {0, -1, 0, -1});
    wordIsBad(new int[] {0, -1, 0, 0});
    wordIsBad(new int[] {0, -1, -1, 0});
    wordIsBad(new int[] {0, 0, -1, 0});
  }

  static void promise06_word_noSuchSoundBehindTheLastIsBad() {
    wordIsBad(new int[] {0, -1, 6, -1});
    wordIsBad(new int[] {0, -1, -1, -2});
    wordIsBad(new int[] {0, 0, -1, 6});
  }

  static void promise06_word_theFirstIs0AndTheEighth7() {
    SoundWords x = new SoundWords();
    for (int w = 0; w < 8; w++) {
      due("word " + w, x.word(w % 6, -1, -1, -1), w);
    }
    due("count(1)", x.count(1), 8);
  }

  static void promise06_word_theNinthIsFull() {
    Cases.refused(States::full, FULL, x -> x.word(0, -1, -1, -1));
    Cases.refused(States::full, FULL, x -> x.word(5, 5, 5, 5));
  }

  static void promise06_word_badGoesAheadOfFull() {
    Cases.refused(States::full, BAD, x -> x.word(-1, -1, -1, -1));
    Cases.refused(States::full, BAD, x -> x.word(6, -1, -1, -1));
    Cases.refused(States::full, BAD, x -> x.word(0, -1, 0, -1));
  }

  static void promise06_word_refusedTakesNoNumber() {
    SoundWords x = new SoundWords();
    x.word(0, -1, -1, -1);
    x.word(6, -1, -1, -1);
    due("the next one", x.word(0, -1, -1, -1), 1);
  }

  static void promise06_word_theSameTwiceAreTwoWords() {
    SoundWords x = new SoundWords();
    due("the first", x.word(1, 2, -1, -1), 0);
    due("the second", x.word(1, 2, -1, -1), 1);
  }

  static void promise06_word_hasOneWay() {
    SoundWords x = new SoundWords();
    x.word(0, -1, -1, -1);
    due("a second", x.way(0, 1, -1, -1, -1), 1);
    due("a third", x.way(0, 1, -1, -1, -1), FULL);
  }

  static void promise06_word_theEighthIsReadAndTold() {
    SoundWords x = States.sharp();
    for (int w = 0; w < 7; w++) {
      x.word(0, -1, -1, -1);
    }
    x.word(5, -1, -1, -1);
    x.feed(5);
    due("rowAt(0)", x.rowAt(0), 7);
    due("say(7)", x.say(7), 1);
    due("spot(7, 2)", x.spot(7, 2), 1);
  }

  static void promise06_word_endsWhatIsLaid() {
    Cases.endsWhatIsLaid(States::some, x -> x.word(5, -1, -1, -1));
  }

  static void promise06_word_theEighthEndsWhatIsLaid() {
    Cases.endsWhatIsLaid(TellingCasesTest::sevenWordsLaid, x -> x.word(5, -1, -1, -1));
  }

  private static SoundWords sevenWordsLaid() {
    SoundWords x = States.sharpWords(6);
    x.word(0, -1, -1, -1);
    x.feed(0);
    x.say(6);
    x.lay();
    return x;
  }

  static void promise06_word_refusedAsBadKeepsWhatIsLaid() {
    Cases.keepsWhatIsLaid(States::some, x -> x.word(-1, -1, -1, -1));
    Cases.keepsWhatIsLaid(States::some, x -> x.word(0, 0, 0, 6));
  }

  static void promise06_word_refusedAsFullKeepsWhatIsLaid() {
    Cases.keepsWhatIsLaid(States::full, x -> x.word(0, -1, -1, -1));
  }

  // ---- promise 7: way

  private static void wayIsBad(int[] row) {
    Cases.refused(States::some, BAD, x -> way(x, 1, row));
  }

  static void promise07_way_ofNoWordYetIsBad() {
    Cases.refused(States::blank, BAD, x -> x.way(0, 0, -1, -1, -1));
    Cases.refused(States::blank, BAD, x -> x.way(-1, 0, -1, -1, -1));
  }

  static void promise07_way_ofWord0IsTaken() {
    due("way(0, ..)", States.sharpWords(2).way(0, 1, -1, -1, -1), 1);
  }

  static void promise07_way_ofWordMinus1IsBad() {
    Cases.refused(States::some, BAD, x -> x.way(-1, 0, -1, -1, -1));
  }

  static void promise07_way_ofTheLastWordIsTaken() {
    due("way(2, ..)", States.some().way(2, 1, -1, -1, -1), 1);
  }

  static void promise07_way_ofTheWordBehindTheLastIsBad() {
    Cases.refused(States::some, BAD, x -> x.way(3, 0, -1, -1, -1));
  }

  static void promise07_way_ofTheEighthWordIsTaken() {
    SoundWords x = States.sharpWords(6);
    x.word(0, -1, -1, -1);
    x.word(0, -1, -1, -1);
    due("way(7, ..)", x.way(7, 5, -1, -1, -1), 1);
    due("way(8, ..)", x.way(8, 5, -1, -1, -1), BAD);
  }

  static void promise07_way_ofWordsFarOutIsBad() {
    for (int far : new int[] {LOW, LOW + 1, -2, 7, 8, 100, HIGH}) {
      Cases.refused(States::some, BAD, x -> x.way(far, 0, -1, -1, -1));
    }
  }

  static void promise07_way_ofOneToFourSoundsIsTaken() {
    for (int last = 0; last < 4; last++) {
      SoundWords x = States.sharp();
      x.word(5, 5, 5, 5);
      due("of " + (last + 1), way(x, 0, rowWith(last, 0, true)), 1);
      States.feedTimes(x, last, 0);
      due("on a frame too few", x.least(), NOT);
      x.feed(0);
      due("on as many frames", x.least(), last + 1);
    }
  }

  static void promise07_way_ofNoSoundIsBad() {
    wayIsBad(new int[] {-1, -1, -1, -1});
  }

  static void promise07_way_sound5IsTakenInEachPlace() {
    for (int place = 0; place < 4; place++) {
      due("place " + place, way(States.sharpWords(1), 0, rowWith(place, 5, false)), 1);
    }
  }

  static void promise07_way_sound6IsBadInEachPlace() {
    for (int place = 0; place < 4; place++) {
      wayIsBad(rowWith(place, 6, true));
      wayIsBad(rowWith(place, 6, false));
    }
  }

  static void promise07_way_soundMinus2IsBadInEachPlace() {
    for (int place = 0; place < 4; place++) {
      wayIsBad(rowWith(place, -2, true));
      wayIsBad(rowWith(place, -2, false));
    }
  }

  static void promise07_way_soundsFarOutAreBadInEachPlace() {
    for (int place = 0; place < 4; place++) {
      for (int far : new int[] {LOW, -100, 7, 100, HIGH}) {
        wayIsBad(rowWith(place, far, false));
      }
    }
  }

  static void promise07_way_minus1AheadOfASoundIsBad() {
    wayIsBad(new int[] {-1, 0, -1, -1});
    wayIsBad(new int[] {-1, -1, -1, 0});
    wayIsBad(new int[] {0, -1, 0, -1});
    wayIsBad(new int[] {0, -1, -1, 0});
    wayIsBad(new int[] {0, 0, -1, 0});
  }

  static void promise07_way_theThirdIsFull() {
    Cases.refused(States::some, FULL, x -> x.way(0, 5, -1, -1, -1));
    for (int w = 0; w < 8; w++) {
      int word = w;
      Cases.refused(States::full, FULL, x -> x.way(word, 5, -1, -1, -1));
    }
  }

  static void promise07_way_theThirdIsNotReadAndTheTwoStay() {
    SoundWords x = States.sharp();
    x.word(0, -1, -1, -1);
    x.way(0, 1, -1, -1, -1);
    x.way(0, 2, -1, -1, -1);
    due("mark 2", States.feed(x, 2).least(), 25);
    x.hush();
    due("mark 0", States.feed(x, 0).least(), 1);
    x.hush();
    due("mark 1", States.feed(x, 1).least(), 1);
  }

  static void promise07_way_badGoesAheadOfFull() {
    Cases.refused(States::some, BAD, x -> x.way(0, -1, -1, -1, -1));
    Cases.refused(States::some, BAD, x -> x.way(0, 6, -1, -1, -1));
    Cases.refused(States::full, BAD, x -> x.way(8, 0, -1, -1, -1));
    Cases.refused(States::full, BAD, x -> x.way(7, 0, -1, 0, -1));
  }

  static void promise07_way_eachWordHasItsOwnTwo() {
    SoundWords x = States.sharpWords(2);
    due("of word 0", x.way(0, 2, -1, -1, -1), 1);
    due("of word 1", x.way(1, 3, -1, -1, -1), 1);
    due("a third of word 0", x.way(0, 4, -1, -1, -1), FULL);
    due("a third of word 1", x.way(1, 4, -1, -1, -1), FULL);
    due("word 0 by its second", States.feed(x, 2).rowAt(0), 0);
    x.hush();
    due("word 1 by its second", States.feed(x, 3).rowAt(0), 1);
  }

  static void promise07_way_theSameAsTheFirstIsTaken() {
    SoundWords x = States.sharpWords(1);
    due("the second", x.way(0, 0, -1, -1, -1), 1);
    due("the third", x.way(0, 0, -1, -1, -1), FULL);
  }

  static void promise07_way_endsWhatIsLaid() {
    Cases.endsWhatIsLaid(States::some, x -> x.way(1, 5, -1, -1, -1));
  }

  static void promise07_way_ofAWordThatIsNotToldEndsWhatIsLaid() {
    Cases.endsWhatIsLaid(States::some, x -> x.way(2, 5, -1, -1, -1));
  }

  static void promise07_way_refusedAsBadKeepsWhatIsLaid() {
    Cases.keepsWhatIsLaid(States::some, x -> x.way(3, 5, -1, -1, -1));
    Cases.keepsWhatIsLaid(States::some, x -> x.way(1, 6, -1, -1, -1));
  }

  static void promise07_way_refusedAsFullKeepsWhatIsLaid() {
    Cases.keepsWhatIsLaid(States::some, x -> x.way(0, 5, -1, -1, -1));
  }

  // ---- promise 8: grammar

  static void promise08_grammar_ofNoWordYetIsBad() {
    Cases.refused(States::blank, BAD, x -> x.grammar(-1, 0, 1));
    Cases.refused(States::blank, BAD, x -> x.grammar(0, -1, 1));
    Cases.refused(States::blank, BAD, x -> x.grammar(0, 0, 1));
    Cases.refused(States::blank, BAD, x -> x.grammar(-1, -1, 1));
  }

  static void promise08_grammar_ofTheBeginningIsTaken() {
    SoundWords x = States.feed(States.sharpWords(1), 0);
    due("grammar(-1, 0, 7)", x.grammar(-1, 0, 7), 0);
    due("least()", x.least(), 1 + 7);
    due("grammar(-1, 0, 0)", x.grammar(-1, 0, 0), 7);
  }

  static void promise08_grammar_ofTheEndIsTaken() {
    SoundWords x = States.feed(States.sharpWords(1), 0);
    due("grammar(0, -1, 7)", x.grammar(0, -1, 7), 0);
    due("least()", x.least(), 1 + 7);
    due("grammar(0, -1, 0)", x.grammar(0, -1, 0), 7);
  }

  static void promise08_grammar_ofBothIsBad() {
    Cases.refused(States::some, BAD, x -> x.grammar(-1, -1, 0));
    Cases.refused(States::some, BAD, x -> x.grammar(-1, -1, 1));
    Cases.refused(States::full, BAD, x -> x.grammar(-1, -1, -1));
  }

  static void promise08_grammar_ofAWordBehindItselfIsTaken() {
    SoundWords x = States.feed(States.sharpWords(1), 0, 0);
    x.stay(20);
    due("grammar(0, 0, 7)", x.grammar(0, 0, 7), 0);
    due("least()", x.least(), 2 + 7);
  }

  static void promise08_grammar_behindIsNotAhead() {
    SoundWords x = States.feed(States.sharpWords(2), 0, 1);
    x.grammar(1, 0, -1);
    due("1 ahead of 0 is barred", x.least(), 2);
    x.grammar(0, 1, 5);
    due("1 behind 0 costs", x.least(), 2 + 5);
  }

  static void promise08_grammar_ofTheLastWordIsTaken() {
    SoundWords x = States.some();
    due("grammar(2, 0, 7)", x.grammar(2, 0, 7), 0);
    due("grammar(0, 2, 8)", x.grammar(0, 2, 8), 0);
    due("grammar(-1, 2, 9)", x.grammar(-1, 2, 9), 0);
    due("grammar(2, -1, 10)", x.grammar(2, -1, 10), 0);
  }

  static void promise08_grammar_ofTheWordBehindTheLastIsBad() {
    Cases.refused(States::some, BAD, x -> x.grammar(3, 0, 7));
    Cases.refused(States::some, BAD, x -> x.grammar(0, 3, 7));
    Cases.refused(States::some, BAD, x -> x.grammar(-1, 3, 7));
    Cases.refused(States::some, BAD, x -> x.grammar(3, -1, 7));
  }

  static void promise08_grammar_ofTheEighthWordIsTakenAndOfANinthBad() {
    SoundWords x = States.full();
    due("grammar(7, 7, 1)", x.grammar(7, 7, 1), 8);
    due("grammar(7, -1, 1)", x.grammar(7, -1, 1), 100);
    due("grammar(-1, 7, 1)", x.grammar(-1, 7, 1), 9);
    Cases.refused(States::full, BAD, y -> y.grammar(8, 7, 1));
    Cases.refused(States::full, BAD, y -> y.grammar(7, 8, 1));
    Cases.refused(States::full, BAD, y -> y.grammar(-1, 8, 1));
    Cases.refused(States::full, BAD, y -> y.grammar(8, -1, 1));
  }

  static void promise08_grammar_ofWordMinus2IsBad() {
    Cases.refused(States::some, BAD, x -> x.grammar(-2, 0, 7));
    Cases.refused(States::some, BAD, x -> x.grammar(0, -2, 7));
    Cases.refused(States::some, BAD, x -> x.grammar(-2, -1, 7));
    Cases.refused(States::some, BAD, x -> x.grammar(-1, -2, 7));
  }

  static void promise08_grammar_numbersFarOutAreBad() {
    for (int far : new int[] {LOW, LOW + 1, -256, 256, HIGH}) {
      Cases.refused(States::some, BAD, x -> x.grammar(far, 0, 7));
      Cases.refused(States::some, BAD, x -> x.grammar(0, far, 7));
      Cases.refused(States::some, BAD, x -> x.grammar(0, 0, far));
    }
  }

  static void promise08_grammar_0IsTaken() {
    SoundWords x = States.sharpWords(1);
    x.grammar(0, 0, 3);
    due("grammar(0, 0, 0)", x.grammar(0, 0, 0), 3);
    due("then", x.grammar(0, 0, 1), 0);
  }

  static void promise08_grammar_100IsTakenAndPaid() {
    SoundWords x = States.feed(States.sharpWords(1), 0);
    due("grammar(-1, 0, 100)", x.grammar(-1, 0, 100), 0);
    due("grammar(0, -1, 100)", x.grammar(0, -1, 100), 0);
    due("least()", x.least(), 1 + 200);
    due("then", x.grammar(-1, 0, 1), 100);
  }

  static void promise08_grammar_101IsBad() {
    Cases.refused(States::some, BAD, x -> x.grammar(0, 1, 101));
    Cases.refused(States::some, BAD, x -> x.grammar(-1, 0, 101));
    Cases.refused(States::some, BAD, x -> x.grammar(0, -1, 101));
  }

  static void promise08_grammar_minus1BarsAndIsTold() {
    SoundWords x = States.sharpWords(1);
    due("grammar(0, 0, -1)", x.grammar(0, 0, -1), 0);
    due("barred again", x.grammar(0, 0, -1), -1);
    due("free again", x.grammar(0, 0, 100), -1);
    due("then", x.grammar(0, 0, 0), 100);
  }

  static void promise08_grammar_minus2IsBad() {
    Cases.refused(States::some, BAD, x -> x.grammar(0, 1, -2));
    Cases.refused(States::some, BAD, x -> x.grammar(-1, 0, -2));
    Cases.refused(States::some, BAD, x -> x.grammar(0, -1, -2));
  }

  static void promise08_grammar_eachOf80StandsByItself() {
    SoundWords x = States.sharpWords(6);
    x.word(0, -1, -1, -1);
    x.word(0, -1, -1, -1);
    for (int n = 1; n <= 80; n++) {
      due("at first " + n, x.grammar(n / 9 - 1, n % 9 - 1, n), 0);
    }
    for (int n = 1; n <= 80; n++) {
      due("then " + n, x.grammar(n / 9 - 1, n % 9 - 1, 0), n);
    }
  }

  static void promise08_grammar_refusedForAWordThatComesLaterIsNotKept() {
    SoundWords x = States.sharpWords(1);
    due("ahead of the word", x.grammar(0, 1, 5), BAD);
    x.word(0, -1, -1, -1);
    due("behind the word", x.grammar(0, 1, 0), 0);
  }

  static void promise08_grammar_endsWhatIsLaid() {
    Cases.endsWhatIsLaid(States::some, x -> x.grammar(0, 1, 6));
    Cases.endsWhatIsLaid(States::some, x -> x.grammar(-1, 0, 6));
    Cases.endsWhatIsLaid(States::some, x -> x.grammar(1, -1, 6));
  }

  static void promise08_grammar_ofTheNumberThatStoodThereEndsWhatIsLaid() {
    Cases.endsWhatIsLaid(States::some, x -> x.grammar(0, 1, 4));
  }

  /** It answers -1, which is no refusal. */
  static void promise08_grammar_ofWhatWasBarredEndsWhatIsLaid() {
    Cases.endsWhatIsLaid(States::some, x -> x.grammar(2, 2, 0));
    due("its answer", States.some().grammar(2, 2, 0), NONE);
  }

  static void promise08_grammar_refusedKeepsWhatIsLaid() {
    Cases.keepsWhatIsLaid(States::some, x -> x.grammar(-1, -1, 0));
    Cases.keepsWhatIsLaid(States::some, x -> x.grammar(3, 0, 0));
    Cases.keepsWhatIsLaid(States::some, x -> x.grammar(0, 1, 101));
  }
}
