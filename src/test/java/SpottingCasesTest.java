/** The boundary cases of promises 22 to 25: spotting, speech, count. Each case says in its name what it is. */
public final class SpottingCasesTest {
  private static final int BAD = -2, NOT = -3;
  private static final int LOW = Integer.MIN_VALUE, HIGH = Integer.MAX_VALUE;

  public static void main(String[] args) throws IllegalAccessException {
    Cases.run(SpottingCasesTest.class, 22, 25);
  }

  private static void due(String what, int got, int want) {
    Cases.due(what, got, want);
  }

  private static void spotted(SoundWords x, int word, int i, int j, int cost) {
    due("spot(" + word + ", 0)", x.spot(word, 0), i);
    due("spot(" + word + ", 1)", x.spot(word, 1), j);
    due("spot(" + word + ", 2)", x.spot(word, 2), cost);
  }

  private static void speech(SoundWords x, int begin, int end) {
    due("speech(0)", x.speech(0), begin);
    due("speech(1)", x.speech(1), end);
  }

  private static SoundWords heard(int level, int rise, int fall, int... marks) {
    SoundWords x = States.feed(new SoundWords(), marks);
    x.ears(level, rise, fall);
    return x;
  }

  // ---- promise 22: spot

  static void promise22_spot_withNoWordsYetIsBad() {
    Cases.refused(States::blank, BAD, x -> x.spot(0, 0));
    Cases.refused(() -> States.feed(new SoundWords(), 0), BAD, x -> x.spot(0, 0));
  }

  static void promise22_spot_word0IsTold() {
    spotted(States.feed(States.sharpWords(2), 1, 0), 0, 1, 2, 1);
  }

  static void promise22_spot_wordMinus1IsBad() {
    Cases.refused(States::some, BAD, x -> x.spot(-1, 0));
  }

  static void promise22_spot_theLastWordIsTold() {
    spotted(States.feed(States.sharpWords(2), 0, 1), 1, 1, 2, 1);
  }

  static void promise22_spot_theWordBehindTheLastIsBad() {
    Cases.refused(States::some, BAD, x -> x.spot(3, 0));
  }

  static void promise22_spot_theEighthWordIsToldAndANinthBad() {
    due("spot(7, 2)", States.full().spot(7, 2) >= 0 ? 1 : 0, 1);
    Cases.refused(States::full, BAD, x -> x.spot(8, 0));
  }

  static void promise22_spot_whatMinus1IsBad() {
    Cases.refused(States::some, BAD, x -> x.spot(0, -1));
  }

  static void promise22_spot_what3IsBad() {
    Cases.refused(States::some, BAD, x -> x.spot(0, 3));
  }

  static void promise22_spot_numbersFarOutAreBad() {
    for (int far : new int[] {LOW, LOW + 1, -2, 8, 40, 256, HIGH}) {
      Cases.refused(States::some, BAD, x -> x.spot(far, 0));
      Cases.refused(States::some, BAD, x -> x.spot(0, far));
    }
  }

  static void promise22_spot_withNoFramesIsNot() {
    Cases.refused(States::oneWordTold, NOT, x -> x.spot(0, 0));
    Cases.refused(States::oneWordTold, NOT, x -> x.spot(0, 1));
    Cases.refused(States::oneWordTold, NOT, x -> x.spot(0, 2));
  }

  private static SoundWords fourSoundsThreeFrames() {
    SoundWords x = States.sharp();
    x.word(0, 1, 2, 3);
    return States.feed(x, 0, 1, 2);
  }

  static void promise22_spot_withAFrameTooFewIsNot() {
    Cases.refused(SpottingCasesTest::fourSoundsThreeFrames, NOT, x -> x.spot(0, 0));
    Cases.refused(SpottingCasesTest::fourSoundsThreeFrames, NOT, x -> x.spot(0, 2));
  }

  static void promise22_spot_withJustEnoughFramesIsTold() {
    spotted(States.feed(fourSoundsThreeFrames(), 3), 0, 0, 4, 4);
  }

  static void promise22_spot_withAWayThatIsShortEnoughIsTold() {
    SoundWords x = fourSoundsThreeFrames();
    x.way(0, 1, -1, -1, -1);
    spotted(x, 0, 1, 2, 1);
  }

  static void promise22_spot_isByTheCheaperOfItsWays() {
    SoundWords x = States.sharpWords(1);
    x.way(0, 3, 4, -1, -1);
    spotted(States.feed(x, 5, 3, 4), 0, 1, 3, 2);
    x.hush();
    spotted(States.feed(x, 5, 5, 0), 0, 2, 3, 1);
  }

  static void promise22_spot_theWaysOfAWordAreNotMixed() {
    SoundWords x = States.sharp();
    x.word(0, 1, -1, -1);
    x.way(0, 2, 3, -1, -1);
    spotted(States.feed(x, 0, 3), 0, 0, 2, 1 + 25);
  }

  static void promise22_spot_soundsGoOneBehindTheOther() {
    SoundWords x = States.sharp();
    x.word(0, 1, -1, -1);
    spotted(States.feed(x, 1, 0, 1, 0), 0, 1, 3, 2);
  }

  static void promise22_spot_badGoesAheadOfNot() {
    Cases.refused(States::oneWordTold, BAD, x -> x.spot(1, 0));
    Cases.refused(States::oneWordTold, BAD, x -> x.spot(0, 3));
    Cases.refused(States::oneWordTold, BAD, x -> x.spot(0, -1));
  }

  static void promise22_spot_onOneFrame() {
    spotted(States.feed(States.sharpWords(1), 0), 0, 0, 1, 1);
  }

  static void promise22_spot_onTheLastOfFortyFrames() {
    SoundWords x = States.feed(States.feedTimes(States.sharpWords(1), 39, 5), 0);
    spotted(x, 0, 39, 40, 1);
  }

  /** Sound 0 costs 30 as mark 0, sound 1 costs 1 as mark 1: each frame more makes it cheaper a frame. */
  private static SoundWords theLongerTheBetter() {
    SoundWords x = new SoundWords();
    x.word(0, 1, -1, -1);
    x.stay(0);
    x.cost(0, 0, 30);
    x.cost(0, 1, 50);
    x.cost(1, 0, 50);
    x.cost(1, 1, 1);
    return x;
  }

  static void promise22_spot_onTwentyFramesIsTold() {
    spotted(States.feedTimes(States.feed(theLongerTheBetter(), 0), 19, 1), 0, 0, 20, 30 + 19);
  }

  static void promise22_spot_onTwentyOneFramesIsNotTold() {
    spotted(States.feedTimes(States.feed(theLongerTheBetter(), 0), 20, 1), 0, 0, 20, 30 + 19);
    spotted(States.feedTimes(States.feed(theLongerTheBetter(), 0), 39, 1), 0, 0, 20, 30 + 19);
  }

  static void promise22_spot_onTheLastTwentyOfForty() {
    SoundWords x = States.feedTimes(theLongerTheBetter(), 20, 2);
    spotted(States.feedTimes(States.feed(x, 0), 19, 1), 0, 20, 40, 30 + 19);
  }

  static void promise22_spot_ofSeveralTheLeastI() {
    spotted(States.feed(States.sharpWords(1), 5, 0, 5, 0, 0), 0, 1, 2, 1);
  }

  static void promise22_spot_ofSeveralThenTheLeastJ() {
    SoundWords x = States.feed(States.sharpWords(1), 0, 0, 0);
    x.stay(0);
    spotted(x, 0, 0, 1, 1);
    x.cost(0, 0, 0);
    spotted(x, 0, 0, 1, 0);
  }

  /** Frames 0 .. 2 cost as much a frame as 1 .. 2: the least i, though its j is not less. */
  static void promise22_spot_ofSeveralTheLeastIGoesAheadOfTheShorter() {
    SoundWords x = States.sharp();
    x.word(0, 1, -1, -1);
    x.stay(0);
    spotted(States.feed(x, 0, 0, 1), 0, 0, 3, 3);
  }

  static void promise22_spot_comparesFractionsAndNotWholeNumbers() {
    SoundWords x = new SoundWords();
    x.word(0, 1, -1, -1);
    x.stay(0);
    x.cost(0, 0, 5);
    x.cost(1, 1, 4);
    States.feed(x, 0, 1, 1);
    spotted(x, 0, 0, 3, 13);
    x.cost(1, 1, 5);
    spotted(x, 0, 0, 2, 10);
    x.cost(1, 1, 6);
    spotted(x, 0, 0, 2, 11);
  }

  static void promise22_spot_paysStayButNotForTheFirstFrame() {
    SoundWords x = theLongerTheBetter();
    x.stay(20);
    spotted(States.feed(x, 0, 1, 1), 0, 0, 2, 31);
    x.stay(3);
    spotted(x, 0, 0, 3, 30 + 1 + 1 + 3);
  }

  static void promise22_spot_isWithoutGrammar() {
    SoundWords x = States.feed(States.sharpWords(1), 0);
    x.grammar(-1, 0, -1);
    x.grammar(0, -1, 100);
    spotted(x, 0, 0, 1, 1);
    due("least()", x.least(), NOT);
  }

  static void promise22_spot_aLostFrameCosts10() {
    spotted(States.feed(States.sharpWords(1), 5, -1, 5), 0, 1, 2, 10);
  }

  static void promise22_spot_theDearest() {
    SoundWords x = new SoundWords();
    x.word(0, 0, 0, 0);
    x.cost(0, 0, 50);
    x.stay(20);
    spotted(States.feedTimes(x, 40, 0), 0, 0, 4, 200);
  }

  static void promise22_spot_changesNothing() {
    Cases.changesNothing(States::some, x -> x.spot(0, 0));
    Cases.changesNothing(States::full, x -> x.spot(7, 2));
  }

  // ---- promise 23: ears

  static void promise23_ears_level1IsTaken() {
    SoundWords x = States.feed(new SoundWords(), 0, 1);
    due("ears(1, 1, 1)", x.ears(1, 1, 1), 1);
    due("speech(0)", x.speech(0), 1);
  }

  static void promise23_ears_level0IsBad() {
    Cases.refused(States::blank, BAD, x -> x.ears(0, 1, 1));
    Cases.refused(States::some, BAD, x -> x.ears(0, 1, 1));
  }

  static void promise23_ears_level7IsTaken() {
    SoundWords x = States.feed(new SoundWords(), 6, 7);
    due("ears(7, 1, 1)", x.ears(7, 1, 1), 1);
    due("speech(0)", x.speech(0), 1);
  }

  static void promise23_ears_level8IsBad() {
    Cases.refused(States::blank, BAD, x -> x.ears(8, 1, 1));
    Cases.refused(States::some, BAD, x -> x.ears(8, 1, 1));
  }

  static void promise23_ears_rise1IsTaken() {
    SoundWords x = States.feed(new SoundWords(), 0, 1);
    due("ears(1, 1, 3)", x.ears(1, 1, 3), 1);
    due("speech(0)", x.speech(0), 1);
  }

  static void promise23_ears_rise0IsBad() {
    Cases.refused(States::blank, BAD, x -> x.ears(1, 0, 1));
    Cases.refused(States::some, BAD, x -> x.ears(1, 0, 1));
  }

  static void promise23_ears_rise5IsTaken() {
    SoundWords x = States.feed(new SoundWords(), 1, 1, 1, 1);
    due("ears(1, 5, 3)", x.ears(1, 5, 3), 1);
    due("four loud frames", x.speech(0), NOT);
    due("five loud frames", States.feed(x, 1).speech(0), 0);
  }

  static void promise23_ears_rise6IsBad() {
    Cases.refused(States::blank, BAD, x -> x.ears(1, 6, 1));
    Cases.refused(States::some, BAD, x -> x.ears(1, 6, 1));
  }

  static void promise23_ears_fall1IsTaken() {
    SoundWords x = States.feed(new SoundWords(), 1, 1, 0);
    due("ears(1, 2, 1)", x.ears(1, 2, 1), 1);
    speech(x, 0, 2);
  }

  static void promise23_ears_fall0IsBad() {
    Cases.refused(States::blank, BAD, x -> x.ears(1, 1, 0));
    Cases.refused(States::some, BAD, x -> x.ears(1, 1, 0));
  }

  static void promise23_ears_fall9IsTaken() {
    SoundWords x = States.feedTimes(States.feed(new SoundWords(), 1, 1), 8, 0);
    due("ears(1, 2, 9)", x.ears(1, 2, 9), 1);
    speech(x, 0, 10);
    x.feed(0);
    speech(x, 0, 2);
  }

  static void promise23_ears_fall10IsBad() {
    Cases.refused(States::blank, BAD, x -> x.ears(1, 1, 10));
    Cases.refused(States::some, BAD, x -> x.ears(1, 1, 10));
  }

  static void promise23_ears_allMostIsTakenAndReplacedByAllLeast() {
    SoundWords x = new SoundWords();
    due("ears(7, 5, 9)", x.ears(7, 5, 9), 1);
    due("ears(1, 1, 1)", x.ears(1, 1, 1), 1);
    speech(States.feed(x, 1, 0, 1), 0, 1);
  }

  static void promise23_ears_numbersFarOutAreBad() {
    for (int far : new int[] {LOW, LOW + 1, -1, 11, 256, HIGH}) {
      Cases.refused(States::some, BAD, x -> x.ears(far, 1, 1));
      Cases.refused(States::some, BAD, x -> x.ears(1, far, 1));
      Cases.refused(States::some, BAD, x -> x.ears(1, 1, far));
    }
  }

  /** The numbers that are in their bounds are not taken either. */
  static void promise23_ears_oneThatIsBadRefusesAllThree() {
    Cases.refused(States::some, BAD, x -> x.ears(7, 5, 10));
    Cases.refused(States::some, BAD, x -> x.ears(7, 6, 9));
    Cases.refused(States::some, BAD, x -> x.ears(8, 5, 9));
    Cases.refused(States::full, BAD, x -> x.ears(1, 1, 0));
    Cases.refused(States::full, BAD, x -> x.ears(1, 0, 1));
    Cases.refused(States::full, BAD, x -> x.ears(0, 1, 1));
  }

  static void promise23_ears_keepWhatIsLaid() {
    Cases.keepsWhatIsLaid(States::some, x -> x.ears(7, 5, 9));
    Cases.keepsWhatIsLaid(States::some, x -> x.ears(8, 5, 9));
  }

  static void promise23_ears_ofTheNumbersThatStoodThereChangeNothing() {
    Cases.changesNothing(States::some, x -> x.ears(2, 1, 4));
    Cases.changesNothing(States::full, x -> x.ears(7, 5, 9));
  }

  // ---- promise 24: speech

  static void promise24_speech_whats0And1AreTold() {
    speech(States.feed(new SoundWords(), 0, 1, 1), 1, 3);
  }

  static void promise24_speech_whatMinus1IsBad() {
    Cases.refused(States::some, BAD, x -> x.speech(-1));
  }

  static void promise24_speech_what2IsBad() {
    Cases.refused(States::some, BAD, x -> x.speech(2));
  }

  static void promise24_speech_whatsFarOutAreBad() {
    for (int far : new int[] {LOW, LOW + 1, -2, 3, 256, HIGH}) {
      Cases.refused(States::some, BAD, x -> x.speech(far));
    }
  }

  static void promise24_speech_withNoFramesIsNot() {
    Cases.refused(States::blank, NOT, x -> x.speech(0));
    Cases.refused(States::blank, NOT, x -> x.speech(1));
  }

  static void promise24_speech_withNoLoudFrameIsNot() {
    Cases.refused(() -> States.feedTimes(new SoundWords(), 40, 0), NOT, x -> x.speech(0));
    Cases.refused(() -> States.feedTimes(new SoundWords(), 40, -1), NOT, x -> x.speech(1));
  }

  static void promise24_speech_badGoesAheadOfNot() {
    Cases.refused(States::blank, BAD, x -> x.speech(2));
    Cases.refused(States::blank, BAD, x -> x.speech(-1));
  }

  static void promise24_speech_oneLoudFrameLessThanRiseIsNot() {
    for (int rise = 1; rise <= 5; rise++) {
      SoundWords x = States.feedTimes(new SoundWords(), rise - 1, 7);
      x.ears(1, rise, 3);
      due("rise " + rise + ", one less", x.speech(0), NOT);
      due("rise " + rise + ", one less, its end", x.speech(1), NOT);
      due("rise " + rise, States.feed(x, 7).speech(0), 0);
    }
  }

  static void promise24_speech_loudFramesThatAreNotSideBySideAreNot() {
    due("a frame between", heard(1, 2, 9, 1, 0, 1, 0, 1).speech(0), NOT);
    due("a lost frame between", heard(1, 2, 9, 1, -1, 1, -1, 1).speech(0), NOT);
  }

  static void promise24_speech_theLevelItselfIsLoudAndBelowItNot() {
    for (int level = 1; level <= 7; level++) {
      due("below level " + level, heard(level, 1, 1, level - 1).speech(0), NOT);
      due("level " + level, heard(level, 1, 1, level).speech(0), 0);
    }
  }

  static void promise24_speech_aLostFrameIsNotLoudAtAnyLevel() {
    for (int level = 1; level <= 7; level++) {
      due("level " + level, heard(level, 1, 1, -1).speech(0), NOT);
    }
  }

  static void promise24_speech_beginsWithTheFirstOfRiseAndNotTheLast() {
    speech(heard(1, 3, 1, 0, 1, 1, 0, 1, 1, 1, 1), 4, 8);
  }

  static void promise24_speech_oneLessThanFallDoesNotEndIt() {
    for (int fall = 2; fall <= 9; fall++) {
      SoundWords x = States.feedTimes(States.feed(new SoundWords(), 1, 1), fall - 1, 0);
      x.feed(1);
      x.ears(1, 2, fall);
      due("fall " + fall, x.speech(1), fall + 2);
    }
  }

  static void promise24_speech_asManyAsFallEndIt() {
    for (int fall = 1; fall <= 9; fall++) {
      SoundWords x = States.feedTimes(States.feed(new SoundWords(), 1, 1), fall, 0);
      x.ears(1, 2, fall);
      due("at the end of frames, fall " + fall, x.speech(1), 2);
      x.feed(1);
      due("ahead of a loud frame, fall " + fall, x.speech(1), 2);
    }
  }

  static void promise24_speech_endsAtTheEndOfFramesIfTooFewAreNotLoud() {
    speech(States.feed(new SoundWords(), 1, 1), 0, 2);
    speech(States.feed(new SoundWords(), 1, 1, 0), 0, 3);
    speech(States.feed(new SoundWords(), 1, 1, 0, 0), 0, 4);
    speech(States.feed(new SoundWords(), 1, 1, 0, 0, 0), 0, 2);
  }

  static void promise24_speech_lostFramesEndItToo() {
    speech(States.feed(new SoundWords(), 1, 1, -1, 0, -1, 1), 0, 2);
  }

  static void promise24_speech_endsBehindOneLoudFrameThoughRiseIsTwo() {
    speech(States.feed(new SoundWords(), 1, 1, 0, 0, 1, 0, 0, 0), 0, 5);
  }

  static void promise24_speech_framesThatAreNotLoudAheadOfItDoNotEndIt() {
    speech(States.feed(new SoundWords(), 0, 0, 0, 0, 1, 1, 0), 4, 7);
    speech(States.feed(new SoundWords(), 1, 0, 0, 0, 1, 1, 0), 4, 7);
  }

  static void promise24_speech_isTheFirstAndNotASecond() {
    speech(States.feed(new SoundWords(), 1, 1, 0, 0, 0, 1, 1, 1, 0, 0, 0), 0, 2);
  }

  static void promise24_speech_ofFortyLoudFrames() {
    speech(States.feedTimes(new SoundWords(), 40, 7), 0, 40);
  }

  static void promise24_speech_ofTheLastFramesOfForty() {
    SoundWords x = States.feedTimes(States.feedTimes(new SoundWords(), 35, 6), 5, 7);
    x.ears(7, 5, 9);
    speech(x, 35, 40);
  }

  static void promise24_speech_endsAheadOfTheLastNineOfForty() {
    SoundWords x = States.feedTimes(States.feedTimes(new SoundWords(), 31, 7), 9, 0);
    x.ears(1, 2, 9);
    speech(x, 0, 31);
  }

  static void promise24_speech_hearsNoFramesThatWereHushed() {
    SoundWords x = States.feed(new SoundWords(), 0, 1, 1, 1);
    x.hush();
    due("one loud frame", States.feed(x, 0, 1).speech(0), NOT);
    x.hush();
    speech(States.feed(x, 1, 1, 0, 0), 0, 4);
  }

  static void promise24_speech_changesNothing() {
    Cases.changesNothing(States::some, x -> x.speech(0));
    Cases.changesNothing(States::some, x -> x.speech(1));
  }

  // ---- promise 25: count

  static void promise25_count_ofANewObjectIs0() {
    SoundWords x = new SoundWords();
    for (int what = 0; what <= 4; what++) {
      due("count(" + what + ")", x.count(what), 0);
    }
  }

  static void promise25_count_ofAFullObjectIsTheMost() {
    SoundWords x = States.full();
    due("count(0)", x.count(0), 40);
    due("count(1)", x.count(1), 8);
    due("count(2)", x.count(2), 12);
    due("count(3)", x.count(3), 16);
    due("count(4)", x.count(4), 1);
  }

  static void promise25_count_ofSomeIsOfEachByItself() {
    SoundWords x = States.some();
    due("count(0)", x.count(0), 6);
    due("count(1)", x.count(1), 3);
    due("count(2)", x.count(2), 2);
    due("count(3)", x.count(3), 2);
    due("count(4)", x.count(4), 1);
  }

  static void promise25_count_whatMinus1IsBad() {
    Cases.refused(States::blank, BAD, x -> x.count(-1));
    Cases.refused(States::some, BAD, x -> x.count(-1));
  }

  static void promise25_count_what5IsBad() {
    Cases.refused(States::blank, BAD, x -> x.count(5));
    Cases.refused(States::some, BAD, x -> x.count(5));
  }

  static void promise25_count_whatsFarOutAreBad() {
    for (int far : new int[] {LOW, LOW + 1, -2, 6, 256, HIGH}) {
      Cases.refused(States::some, BAD, x -> x.count(far));
    }
  }

  static void promise25_count_4IsAgain0IfNothingIsLaidAnyMore() {
    SoundWords x = States.oneWordLaid(1);
    due("laid", x.count(4), 1);
    x.stay(1);
    due("laid no more", x.count(4), 0);
    x.lay();
    due("laid again", x.count(4), 1);
  }

  static void promise25_count_ofFramesAndOfTheToldRowIsAgain0() {
    SoundWords x = States.full();
    x.hush();
    x.unsay();
    due("count(0)", x.count(0), 0);
    due("count(1)", x.count(1), 8);
    due("count(2)", x.count(2), 0);
  }

  static void promise25_count_changesNothing() {
    Cases.changesNothing(States::some, x -> x.count(0));
    Cases.changesNothing(States::full, x -> x.count(4));
  }
}
