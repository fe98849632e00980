/** The boundary cases of promises 13 to 17: a told row. Each case says in its name what it is. */
public final class ToldRowCasesTest {
  private static final int BAD = -2, NOT = -3, FULL = -4;
  private static final int LOW = Integer.MIN_VALUE, HIGH = Integer.MAX_VALUE;

  public static void main(String[] args) throws IllegalAccessException {
    Cases.run(ToldRowCasesTest.class, 13, 17);
  }

  private static void due(String what, int got, int want) {
    Cases.due(what, got, want);
  }

  private static void laid(SoundWords x, int what, int... want) {
    for (int f = 0; f < want.length; f++) {
      due("laid(" + f + ", " + what + ")", x.laid(f, what), want[f]);
    }
    due("laid behind the last", x.laid(want.length, what), BAD);
  }

  // ---- promise 13: say

  static void promise13_say_withNoWordsYetIsBad() {
    Cases.refused(States::blank, BAD, x -> x.say(0));
    Cases.refused(States::blank, BAD, x -> x.say(-1));
  }

  static void promise13_say_word0IsTaken() {
    due("say(0)", States.sharpWords(3).say(0), 1);
  }

  static void promise13_say_wordMinus1IsBad() {
    Cases.refused(States::some, BAD, x -> x.say(-1));
  }

  static void promise13_say_theLastWordIsTaken() {
    due("say(2)", States.some().say(2), 3);
  }

  static void promise13_say_theWordBehindTheLastIsBad() {
    Cases.refused(States::some, BAD, x -> x.say(3));
  }

  static void promise13_say_theEighthWordIsTakenAndANinthBad() {
    SoundWords x = States.full();
    x.unsay();
    due("say(7)", x.say(7), 1);
    due("say(8)", x.say(8), BAD);
  }

  static void promise13_say_wordsFarOutAreBad() {
    for (int far : new int[] {LOW, LOW + 1, -2, 7, 8, 100, HIGH}) {
      Cases.refused(States::some, BAD, x -> x.say(far));
    }
  }

  static void promise13_say_theFirstAnswers1AndTheTwelfth12() {
    SoundWords x = States.sharpWords(2);
    for (int n = 1; n <= 12; n++) {
      due("say " + n, x.say(n % 2), n);
    }
    due("count(2)", x.count(2), 12);
  }

  static void promise13_say_theThirteenthIsFull() {
    Cases.refused(States::full, FULL, x -> x.say(0));
    Cases.refused(States::full, FULL, x -> x.say(7));
    Cases.refused(() -> States.sayTimes(States.sharpWords(1), 12, 0), FULL, x -> x.say(0));
  }

  static void promise13_say_badGoesAheadOfFull() {
    for (int word : new int[] {LOW, -1, 8, HIGH}) {
      Cases.refused(States::full, BAD, x -> x.say(word));
    }
  }

  static void promise13_say_hasRoomAgainBehindUnsay() {
    SoundWords x = States.full();
    x.unsay();
    for (int n = 1; n <= 12; n++) {
      due("say " + n, x.say(0), n);
    }
    due("say 13", x.say(0), FULL);
  }

  static void promise13_say_endsWhatIsLaid() {
    Cases.endsWhatIsLaid(States::some, x -> x.say(0));
  }

  static void promise13_say_theTwelfthEndsWhatIsLaid() {
    Cases.endsWhatIsLaid(ToldRowCasesTest::elevenLaid, x -> x.say(0));
  }

  private static SoundWords elevenLaid() {
    SoundWords x = States.sayTimes(States.feedTimes(States.sharpWords(1), 20, 0), 11, 0);
    x.lay();
    return x;
  }

  static void promise13_say_refusedAsBadKeepsWhatIsLaid() {
    Cases.keepsWhatIsLaid(States::some, x -> x.say(3));
    Cases.keepsWhatIsLaid(States::some, x -> x.say(-1));
  }

  static void promise13_say_refusedAsFullKeepsWhatIsLaid() {
    Cases.keepsWhatIsLaid(States::full, x -> x.say(0));
  }

  // ---- promise 14: unsay

  static void promise14_unsay_ofNoneAnswers0() {
    due("a new object", new SoundWords().unsay(), 0);
    due("words, but none told", States.sharpWords(3).unsay(), 0);
  }

  static void promise14_unsay_ofOneAnswers1() {
    SoundWords x = States.oneWordTold();
    due("unsay()", x.unsay(), 1);
    due("count(2)", x.count(2), 0);
  }

  static void promise14_unsay_ofTwelveAnswers12() {
    SoundWords x = States.full();
    due("unsay()", x.unsay(), 12);
    due("count(2)", x.count(2), 0);
  }

  static void promise14_unsay_againAnswers0() {
    SoundWords x = States.some();
    due("unsay()", x.unsay(), 2);
    due("unsay() again", x.unsay(), 0);
  }

  static void promise14_unsay_leavesNothingToLay() {
    SoundWords x = States.some();
    x.unsay();
    due("lay()", x.lay(), NOT);
  }

  static void promise14_unsay_leavesAllElse() {
    SoundWords x = States.full();
    int least = x.least();
    x.unsay();
    due("count(0)", x.count(0), 40);
    due("count(1)", x.count(1), 8);
    due("count(3)", x.count(3), 16);
    due("least()", x.least(), least);
    due("edits() of the empty row", x.edits(), x.rowSize());
  }

  static void promise14_unsay_endsWhatIsLaid() {
    Cases.endsWhatIsLaid(States::some, SoundWords::unsay);
    Cases.endsWhatIsLaid(States::full, SoundWords::unsay);
  }

  static void promise14_unsay_whatWasLaidStaysEndedWithTheSameRowAgain() {
    SoundWords x = States.oneWordLaid(2);
    x.unsay();
    x.say(0);
    due("count(4)", x.count(4), 0);
    due("laid(0, 0)", x.laid(0, 0), NOT);
  }

  // ---- promise 15: lay

  private static SoundWords noRowTold() {
    return States.feed(States.sharpWords(2), 0, 1);
  }

  /** Two words of four sounds and seven frames. */
  private static SoundWords aFrameTooFew() {
    SoundWords x = States.sharp();
    x.word(0, 1, 2, 3);
    States.say(x, 0, 0);
    return States.feed(x, 0, 1, 2, 3, 0, 1, 2);
  }

  private static SoundWords barred(int a, int b) {
    SoundWords x = States.say(States.feed(States.sharpWords(2), 0, 1), 0, 1);
    x.grammar(a, b, -1);
    return x;
  }

  static void promise15_lay_ofNothingIsNot() {
    Cases.refused(States::blank, NOT, SoundWords::lay);
  }

  static void promise15_lay_withNoRowToldIsNot() {
    Cases.refused(ToldRowCasesTest::noRowTold, NOT, SoundWords::lay);
  }

  static void promise15_lay_withNoFramesIsNot() {
    Cases.refused(States::oneWordTold, NOT, SoundWords::lay);
  }

  static void promise15_lay_withAFrameTooFewIsNot() {
    Cases.refused(ToldRowCasesTest::aFrameTooFew, NOT, SoundWords::lay);
  }

  static void promise15_lay_withJustEnoughFramesIsLaid() {
    SoundWords x = States.feed(aFrameTooFew(), 3);
    due("lay()", x.lay(), 8);
    due("count(4)", x.count(4), 1);
    laid(x, 0, 0, 1, 2, 3, 0, 1, 2, 3);
    laid(x, 1, 0, 0, 0, 0, 1, 1, 1, 1);
  }

  static void promise15_lay_ofTheFirstBarredToBeginIsNot() {
    Cases.refused(() -> barred(-1, 0), NOT, SoundWords::lay);
  }

  static void promise15_lay_ofTheLastBarredToEndIsNot() {
    Cases.refused(() -> barred(1, -1), NOT, SoundWords::lay);
  }

  static void promise15_lay_ofTheSecondBarredToFollowIsNot() {
    Cases.refused(() -> barred(0, 1), NOT, SoundWords::lay);
  }

  static void promise15_lay_ofWhatIsBarredElsewhereIsLaid() {
    due("1 to begin", barred(-1, 1).lay(), 2);
    due("0 to end", barred(0, -1).lay(), 2);
    due("0 behind 1", barred(1, 0).lay(), 2);
    due("0 behind 0", barred(0, 0).lay(), 2);
  }

  static void promise15_lay_refusedLeavesNothingLaid() {
    SoundWords x = States.some();
    x.hush();
    due("lay()", x.lay(), NOT);
    due("count(4)", x.count(4), 0);
    x.feed(0);
    due("laid(0, 0)", x.laid(0, 0), NOT);
    due("teach()", x.teach(), NOT);
  }

  static void promise15_lay_refusedBehindWhatWasLaidLeavesNothingLaid() {
    SoundWords x = States.oneWordLaid(1);
    x.say(0);
    due("two words on one frame", x.lay(), NOT);
    due("count(4)", x.count(4), 0);
    due("laid(0, 0)", x.laid(0, 0), NOT);
    due("teach()", x.teach(), NOT);
  }

  static void promise15_lay_ofOneWordOnOneFrame() {
    SoundWords x = States.feed(States.oneWordTold(), -1);
    due("lay()", x.lay(), 10);
    laid(x, 0, 0);
    laid(x, 1, 0);
    laid(x, 2, 0);
  }

  static void promise15_lay_mayBe0() {
    SoundWords x = States.feed(States.oneWordTold(), 0);
    x.cost(0, 0, 0);
    due("lay()", x.lay(), 0);
    due("count(4)", x.count(4), 1);
  }

  static void promise15_lay_ofOneWordOnFortyFrames() {
    SoundWords x = States.feedTimes(States.oneWordTold(), 40, 0);
    due("lay()", x.lay(), 40 * 25 + 39);
    due("laid(39, 1)", x.laid(39, 1), 0);
  }

  static void promise15_lay_ofTwelveWordsOnTwelveFrames() {
    SoundWords x = States.feedTimes(States.sayTimes(States.sharpWords(1), 12, 0), 11, 0);
    due("eleven frames", x.lay(), NOT);
    x.feed(0);
    due("twelve frames", x.lay(), 12);
    laid(x, 1, 0, 1, 2, 3, 4, 5, 6, 7, 8, 9, 10, 11);
  }

  static void promise15_lay_ofTenWordsOfFourSoundsFillsFortyFrames() {
    SoundWords x = States.sharp();
    x.word(0, 1, 2, 3);
    States.sayTimes(x, 10, 0);
    for (int f = 0; f < 40; f++) {
      x.feed(f % 4);
    }
    due("ten words", x.lay(), 40);
    due("laid(39, 0)", x.laid(39, 0), 3);
    due("laid(39, 1)", x.laid(39, 1), 9);
    x.say(0);
    due("eleven words", x.lay(), NOT);
  }

  static void promise15_lay_ofTheDearestRow() {
    SoundWords x = new SoundWords();
    x.word(0, -1, -1, -1);
    x.cost(0, 0, 50);
    x.stay(20);
    x.grammar(-1, 0, 100);
    x.grammar(0, 0, 100);
    x.grammar(0, -1, 100);
    States.sayTimes(States.feedTimes(x, 40, 0), 12, 0);
    due("lay()", x.lay(), 40 * 50 + 28 * 20 + 13 * 100);
    due("laid(39, 1)", x.laid(39, 1), 11);
  }

  static void promise15_lay_isTheToldRowsLeastAndNotTheLeastOfAll() {
    SoundWords x = States.say(States.feed(States.sharpWords(2), 0, 0), 1);
    due("least()", x.least(), 2);
    due("lay()", x.lay(), 25 + 25 + 1);
  }

  static void promise15_lay_againLaysTheSame() {
    SoundWords x = States.full();
    int cost = x.lay();
    due("lay() again", x.lay(), cost);
    Cases.keepsWhatIsLaid(States::full, SoundWords::lay);
    Cases.keepsWhatIsLaid(States::some, SoundWords::lay);
  }

  static void promise15_lay_changesNothingElse() {
    Cases.changesNothing(States::some, SoundWords::lay);
    Cases.changesNothing(States::full, SoundWords::lay);
  }

  static void promise15_lay_ofSeveralWay0OfTheFirstWordGoesAhead() {
    SoundWords x = States.feed(States.oneWordTold(), -1, -1);
    x.way(0, 1, -1, -1, -1);
    due("lay()", x.lay(), 21);
    laid(x, 2, 0, 0);
    laid(x, 0, 0, 0);
  }

  static void promise15_lay_way1IsLaidIfItIsCheaper() {
    SoundWords x = States.feed(States.oneWordTold(), 4);
    x.way(0, 1, -1, -1, -1);
    x.cost(1, 4, 24);
    due("lay()", x.lay(), 24);
    laid(x, 2, 1);
    laid(x, 0, 1);
  }

  static void promise15_lay_ofSeveralTheSecondSoundBeginsEarly() {
    SoundWords x = new SoundWords();
    x.word(0, 1, -1, -1);
    States.say(States.feed(x, -1, -1, -1, -1), 0);
    due("lay()", x.lay(), 42);
    laid(x, 0, 0, 1, 1, 1);
  }

  static void promise15_lay_ofSeveralThenTheThirdAndFourthBeginEarly() {
    SoundWords x = new SoundWords();
    x.word(0, 1, 2, 3);
    States.say(States.feedTimes(x, 6, -1), 0);
    due("lay()", x.lay(), 62);
    laid(x, 0, 0, 1, 2, 3, 3, 3);
  }

  static void promise15_lay_ofSeveralThenTheNextWordBeginsEarly() {
    SoundWords x = States.say(States.feedTimes(States.sharpWords(2), 4, -1), 0, 1, 0);
    due("lay()", x.lay(), 41);
    laid(x, 1, 0, 1, 2, 2);
  }

  static void promise15_lay_theNextSoundBeginsLateIfThatIsCheaper() {
    SoundWords x = States.sharp();
    x.word(0, 1, -1, -1);
    States.say(States.feed(x, 0, 0, 0, 1), 0);
    due("lay()", x.lay(), 4 + 2);
    laid(x, 0, 0, 0, 0, 1);
  }

  static void promise15_lay_theNextWordBeginsLateIfThatIsCheaper() {
    SoundWords x = States.say(States.feed(States.sharpWords(2), 0, 0, 0, 1), 0, 1);
    due("lay()", x.lay(), 4 + 2);
    laid(x, 1, 0, 0, 0, 1);
  }

  /** Behind the fourth sound of way 0 comes no sound of way 1. */
  static void promise15_lay_ofFourSoundsByWay0EndsWithTheFourth() {
    SoundWords x = States.sharp();
    x.word(0, 1, 2, 3);
    x.way(0, 4, -1, -1, -1);
    States.say(States.feed(x, 0, 1, 2, 3, 4), 0);
    due("lay()", x.lay(), 4 + 25 + 1);
    laid(x, 0, 0, 1, 2, 3, 3);
    laid(x, 2, 0, 0, 0, 0, 0);
  }

  static void promise15_lay_ofFourSoundsByWay1AtTheTwelfthPlace() {
    SoundWords x = States.sharp();
    x.word(5, -1, -1, -1);
    x.way(0, 0, 1, 2, 3);
    States.sayTimes(States.feedTimes(x, 11, 5), 12, 0);
    States.feed(x, 0, 1, 2, 3);
    due("lay()", x.lay(), 15);
    laid(x, 0, 5, 5, 5, 5, 5, 5, 5, 5, 5, 5, 5, 0, 1, 2, 3);
    laid(x, 1, 0, 1, 2, 3, 4, 5, 6, 7, 8, 9, 10, 11, 11, 11, 11);
    laid(x, 2, 0, 0, 0, 0, 0, 0, 0, 0, 0, 0, 0, 1, 1, 1, 1);
  }

  /** Beginning with frame 1 needs way 1 of the second word, beginning with frame 2 would have way 0. */
  static void promise15_lay_ofSeveralTheNextWordsBeginningGoesAheadOfItsWay() {
    SoundWords x = new SoundWords();
    x.word(0, -1, -1, -1);
    x.word(1, -1, -1, -1);
    x.way(1, 2, -1, -1, -1);
    x.stay(0);
    for (int mark = 0; mark < 3; mark++) {
      x.cost(0, mark, 0);
      x.cost(1, mark, mark == 2 ? 0 : 50);
      x.cost(2, mark, 0);
    }
    States.say(States.feed(x, 0, 1, 2), 0, 1);
    due("lay()", x.lay(), 0);
    laid(x, 1, 0, 1, 1);
    laid(x, 2, 0, 1, 1);
  }

  /** By way 1 of the first word the second could begin earlier. */
  static void promise15_lay_ofSeveralTheFirstWordsWayGoesAheadOfTheNextBeginning() {
    SoundWords x = new SoundWords();
    x.word(0, 0, -1, -1);
    x.way(0, 0, -1, -1, -1);
    x.word(0, -1, -1, -1);
    x.stay(0);
    States.say(States.feed(x, 0, 0, 0), 0, 1);
    due("lay()", x.lay(), 75);
    laid(x, 2, 0, 0, 0);
    laid(x, 1, 0, 0, 1);
  }

  static void promise15_lay_ofSeveralWay0OfTheNextWordGoesAhead() {
    SoundWords x = States.say(States.feedTimes(States.sharpWords(2), 3, -1), 0, 1);
    x.way(1, 2, -1, -1, -1);
    due("lay()", x.lay(), 31);
    laid(x, 1, 0, 1, 1);
    laid(x, 2, 0, 0, 0);
    laid(x, 0, 0, 1, 1);
  }

  /** A word of two ways that cost the same: by way 0 the second sound begins with frame 2, by way 1 with frame 1. */
  private static SoundWords laterByWay0() {
    SoundWords x = States.sharp();
    x.word(0, 1, -1, -1);
    x.way(0, 2, 3, -1, -1);
    x.stay(0);
    x.cost(0, 6, 1);
    x.cost(3, 6, 1);
    x.cost(2, 0, 1);
    x.cost(3, 1, 1);
    return x;
  }

  static void promise15_lay_ofSeveralTheFirstWordsWayGoesAheadOfItsSecondSound() {
    SoundWords x = States.say(States.feed(laterByWay0(), 0, 6, 1), 0);
    due("lay()", x.lay(), 3);
    laid(x, 2, 0, 0, 0);
    laid(x, 0, 0, 0, 1);
  }

  static void promise15_lay_ofSeveralTheNextWordsWayGoesAheadOfItsSecondSound() {
    SoundWords x = laterByWay0();
    x.word(5, -1, -1, -1);
    States.say(States.feed(x, 5, 0, 6, 1), 1, 0);
    due("lay()", x.lay(), 4);
    laid(x, 1, 0, 1, 1, 1);
    laid(x, 2, 0, 0, 0, 0);
    laid(x, 0, 5, 0, 0, 1);
  }

  /** Each word may be said in one sound or two: where to stay costs nothing, all that fits costs the same. */
  static void promise15_lay_ofSeveralAndSoOnToTheLastWord() {
    SoundWords x = States.say(States.feedTimes(States.sharpWords(3), 6, -1), 0, 1, 2);
    for (int w = 0; w < 3; w++) {
      x.way(w, w, w, -1, -1);
    }
    x.stay(0);
    due("lay()", x.lay(), 60);
    laid(x, 1, 0, 1, 2, 2, 2, 2);
    laid(x, 2, 0, 0, 0, 0, 0, 0);
    x.stay(1);
    due("lay() where to stay costs", x.lay(), 60);
    laid(x, 1, 0, 0, 1, 1, 2, 2);
    laid(x, 2, 1, 1, 1, 1, 1, 1);
  }

  static void promise15_lay_aWordIsLaidByBothWaysInOneRow() {
    SoundWords x = States.sharpWords(1);
    x.way(0, 3, 4, -1, -1);
    States.say(States.feed(x, 3, 4, 0, 3, 4), 0, 0, 0);
    due("lay()", x.lay(), 5);
    laid(x, 1, 0, 0, 1, 2, 2);
    laid(x, 2, 1, 1, 0, 1, 1);
    laid(x, 0, 3, 4, 0, 3, 4);
  }

  static void promise15_lay_theWaysOfAWordAreNotMixed() {
    SoundWords x = States.sharp();
    x.word(0, 1, -1, -1);
    x.way(0, 2, 3, -1, -1);
    States.say(States.feed(x, 0, 3), 0);
    due("lay()", x.lay(), 1 + 25);
    laid(x, 2, 0, 0);
    laid(x, 0, 0, 1);
  }

  static void promise15_lay_paysTheGrammarOfTheToldRow() {
    SoundWords x = States.say(States.feed(States.sharpWords(2), 0, 1, 0), 0, 1, 0);
    x.grammar(-1, 0, 7);
    x.grammar(0, 1, 11);
    x.grammar(1, 0, 13);
    x.grammar(0, -1, 17);
    x.grammar(-1, 1, 50);
    x.grammar(1, -1, 50);
    due("lay()", x.lay(), 3 + 7 + 11 + 13 + 17);
  }

  // ---- promise 16: laid

  static void promise16_laid_ofFrame0IsTold() {
    due("laid(0, 0)", States.oneWordLaid(3).laid(0, 0), 0);
  }

  static void promise16_laid_ofFrameMinus1IsBad() {
    Cases.refused(States::some, BAD, x -> x.laid(-1, 0));
  }

  static void promise16_laid_ofTheLastFrameIsTold() {
    SoundWords x = States.some();
    due("laid(5, 0)", x.laid(5, 0), 1);
    due("laid(5, 1)", x.laid(5, 1), 1);
    due("laid(5, 2)", x.laid(5, 2), 0);
  }

  static void promise16_laid_ofTheFrameBehindTheLastIsBad() {
    Cases.refused(States::some, BAD, x -> x.laid(6, 0));
  }

  static void promise16_laid_ofTheFortiethFrameIsToldAndOfAFortyFirstBad() {
    SoundWords x = States.full();
    due("laid(39, 1)", x.laid(39, 1), 11);
    due("laid(40, 1)", x.laid(40, 1), BAD);
  }

  static void promise16_laid_whats0To2AreTold() {
    SoundWords x = States.say(States.feed(States.sharpWords(2), 0, 3), 0, 1);
    x.way(1, 3, -1, -1, -1);
    x.lay();
    laid(x, 0, 0, 3);
    laid(x, 1, 0, 1);
    laid(x, 2, 0, 1);
  }

  static void promise16_laid_whatMinus1IsBad() {
    Cases.refused(States::some, BAD, x -> x.laid(0, -1));
  }

  static void promise16_laid_what3IsBad() {
    Cases.refused(States::some, BAD, x -> x.laid(0, 3));
  }

  static void promise16_laid_numbersFarOutAreBad() {
    for (int far : new int[] {LOW, LOW + 1, -2, 40, 41, 100, HIGH}) {
      Cases.refused(States::some, BAD, x -> x.laid(far, 0));
      Cases.refused(States::some, BAD, x -> x.laid(0, far));
    }
  }

  static void promise16_laid_withNothingLaidIsNot() {
    Cases.refused(ToldRowCasesTest::noRowTold, NOT, x -> x.laid(0, 0));
    Cases.refused(ToldRowCasesTest::noRowTold, NOT, x -> x.laid(1, 2));
  }

  static void promise16_laid_badGoesAheadOfNot() {
    Cases.refused(States::blank, BAD, x -> x.laid(0, 0));
    Cases.refused(ToldRowCasesTest::noRowTold, BAD, x -> x.laid(2, 0));
    Cases.refused(ToldRowCasesTest::noRowTold, BAD, x -> x.laid(-1, 0));
    Cases.refused(ToldRowCasesTest::noRowTold, BAD, x -> x.laid(0, 3));
    Cases.refused(ToldRowCasesTest::noRowTold, BAD, x -> x.laid(0, -1));
  }

  static void promise16_laid_ofALostFrameIsTold() {
    SoundWords x = States.say(States.feed(States.sharpWords(2), 0, -1, 1), 0, 1);
    x.lay();
    laid(x, 0, 0, 1, 1);
    laid(x, 1, 0, 1, 1);
  }

  static void promise16_laid_isToldAgainBehindAnotherLay() {
    SoundWords x = States.oneWordLaid(2);
    x.stay(3);
    due("laid(0, 0)", x.laid(0, 0), NOT);
    due("lay()", x.lay(), 53);
    due("laid(0, 0) again", x.laid(0, 0), 0);
  }

  static void promise16_laid_changesNothing() {
    Cases.changesNothing(States::some, x -> x.laid(0, 0));
    Cases.changesNothing(States::full, x -> x.laid(39, 2));
  }

  // ---- promise 17: edits

  static void promise17_edits_withoutAReadingIsNot() {
    Cases.refused(States::blank, NOT, SoundWords::edits);
    Cases.refused(States::oneWordTold, NOT, SoundWords::edits);
    Cases.refused(() -> States.feed(new SoundWords(), 0), NOT, SoundWords::edits);
    Cases.refused(ToldRowCasesTest::allBarredToEnd, NOT, SoundWords::edits);
  }

  private static SoundWords allBarredToEnd() {
    SoundWords x = States.feed(States.oneWordTold(), 0);
    x.grammar(0, -1, -1);
    return x;
  }

  /** The told row has no reading, but THE ROW is there. */
  static void promise17_edits_needNoReadingOfTheToldRow() {
    SoundWords x = States.say(States.feed(States.sharpWords(2), 0), 1, 1);
    due("lay()", x.lay(), NOT);
    due("edits()", x.edits(), 2);
  }

  static void promise17_edits_ofTheSameRowsAre0() {
    SoundWords x = States.say(States.feed(States.sharpWords(3), 0, 1, 2), 0, 1, 2);
    due("edits()", x.edits(), 0);
  }

  static void promise17_edits_askedAgainAreTheSame() {
    SoundWords x = States.say(States.feed(States.sharpWords(3), 0, 1, 2), 0, 1, 2);
    due("edits()", x.edits(), 0);
    due("edits() again", x.edits(), 0);
    x.unsay();
    due("edits() of no row told", x.edits(), 3);
    x.say(0);
    due("edits() of one word told", x.edits(), 2);
  }

  static void promise17_edits_ofNoRowToldAreAllWordsPutIn() {
    due("one", States.feed(States.sharpWords(1), 0).edits(), 1);
    due("forty", States.feedTimes(States.sharpWords(1), 40, 0).edits(), 40);
  }

  static void promise17_edits_ofTwelveToldAndOne() {
    SoundWords x = States.sayTimes(States.feed(States.sharpWords(2), 0), 12, 0);
    due("eleven taken out", x.edits(), 11);
    x.unsay();
    States.sayTimes(x, 12, 1);
    due("one changed, eleven taken out", x.edits(), 12);
  }

  static void promise17_edits_ofTwelveToldAndForty() {
    SoundWords x = States.sayTimes(States.feedTimes(States.sharpWords(2), 40, 0), 12, 0);
    due("twenty-eight put in", x.edits(), 28);
    x.unsay();
    States.sayTimes(x, 12, 1);
    due("twelve changed too", x.edits(), 40);
  }

  static void promise17_edits_aChangeIsOneAndNotTwo() {
    SoundWords x = States.say(States.feed(States.sharpWords(4), 0, 1, 2), 0, 3, 2);
    due("edits()", x.edits(), 1);
  }

  static void promise17_edits_twoWordsInEachOthersPlaceAreTwo() {
    SoundWords x = States.say(States.feed(States.sharpWords(2), 0, 1), 1, 0);
    due("edits()", x.edits(), 2);
  }

  static void promise17_edits_aWordPutInAtTheBeginningIsOne() {
    SoundWords x = States.say(States.feed(States.sharpWords(4), 3, 0, 1, 2), 0, 1, 2);
    due("edits()", x.edits(), 1);
  }

  static void promise17_edits_aWordTakenOutAtTheBeginningIsOne() {
    SoundWords x = States.say(States.feed(States.sharpWords(4), 0, 1, 2), 3, 0, 1, 2);
    due("edits()", x.edits(), 1);
  }

  static void promise17_edits_aWordPutInBetweenIsOne() {
    SoundWords x = States.say(States.feed(States.sharpWords(4), 0, 3, 1, 2), 0, 1, 2);
    due("edits()", x.edits(), 1);
  }

  static void promise17_edits_aWordTakenOutBetweenIsOne() {
    SoundWords x = States.say(States.feed(States.sharpWords(4), 0, 1, 2), 0, 3, 1, 2);
    due("edits()", x.edits(), 1);
  }

  static void promise17_edits_aWordPutInAtTheEndIsOne() {
    SoundWords x = States.say(States.feed(States.sharpWords(4), 0, 1, 2, 3), 0, 1, 2);
    due("edits()", x.edits(), 1);
  }

  static void promise17_edits_aWordTakenOutAtTheEndIsOne() {
    SoundWords x = States.say(States.feed(States.sharpWords(4), 0, 1, 2), 0, 1, 2, 3);
    due("edits()", x.edits(), 1);
  }

  static void promise17_edits_changeNothing() {
    Cases.changesNothing(States::some, SoundWords::edits);
    Cases.changesNothing(States::full, SoundWords::edits);
  }
}
