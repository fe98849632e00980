/** The boundary cases of promises 9 to 12: readings of all frames. Each case says in its name what it is. */
public final class ReadingCasesTest {
  private static final int NONE = -1, BAD = -2, NOT = -3;
  private static final int LOW = Integer.MIN_VALUE, HIGH = Integer.MAX_VALUE;

  public static void main(String[] args) throws IllegalAccessException {
    Cases.run(ReadingCasesTest.class, 9, 12);
  }

  private static void due(String what, int got, int want) {
    Cases.due(what, got, want);
  }

  private static void row(SoundWords x, int... want) {
    due("rowSize()", x.rowSize(), want.length);
    for (int i = 0; i < want.length; i++) {
      due("rowAt(" + i + ")", x.rowAt(i), want[i]);
    }
  }

  // ---- states without a reading

  private static SoundWords wordsWithoutFrames() {
    return States.sharpWords(2);
  }

  private static SoundWords framesWithoutWords() {
    return States.feed(new SoundWords(), 0, 1, -1);
  }

  private static SoundWords aFrameTooFew() {
    SoundWords x = States.sharp();
    x.word(0, 1, 2, 3);
    return States.feed(x, 0, 1, 2);
  }

  private static SoundWords barredToBegin() {
    SoundWords x = States.feed(States.sharpWords(1), 0, 0);
    x.grammar(-1, 0, -1);
    return x;
  }

  private static SoundWords barredToEnd() {
    SoundWords x = States.feed(States.sharpWords(1), 0, 0);
    x.grammar(0, -1, -1);
    return x;
  }

  /** Word 0 may begin but not end, word 1 end but not begin, and 1 may not follow 0. */
  private static SoundWords barredToFollow() {
    SoundWords x = States.feed(States.sharpWords(2), 0, 1);
    x.grammar(0, -1, -1);
    x.grammar(-1, 1, -1);
    x.grammar(0, 1, -1);
    return x;
  }

  // ---- promise 9: least

  static void promise09_least_ofNothingIsNot() {
    Cases.refused(States::blank, NOT, SoundWords::least);
  }

  static void promise09_least_ofWordsWithoutFramesIsNot() {
    Cases.refused(ReadingCasesTest::wordsWithoutFrames, NOT, SoundWords::least);
  }

  static void promise09_least_ofFramesWithoutWordsIsNot() {
    Cases.refused(ReadingCasesTest::framesWithoutWords, NOT, SoundWords::least);
  }

  static void promise09_least_ofAFrameTooFewIsNot() {
    Cases.refused(ReadingCasesTest::aFrameTooFew, NOT, SoundWords::least);
  }

  static void promise09_least_ofJustEnoughFramesIsTold() {
    due("least()", States.feed(aFrameTooFew(), 3).least(), 4);
  }

  static void promise09_least_ofAWordBarredToBeginIsNot() {
    Cases.refused(ReadingCasesTest::barredToBegin, NOT, SoundWords::least);
  }

  static void promise09_least_ofAWordBarredToEndIsNot() {
    Cases.refused(ReadingCasesTest::barredToEnd, NOT, SoundWords::least);
  }

  static void promise09_least_ofWordsBarredToFollowIsNot() {
    Cases.refused(ReadingCasesTest::barredToFollow, NOT, SoundWords::least);
    SoundWords x = barredToFollow();
    x.grammar(0, 1, 100);
    due("100 is not barred", x.least(), 2 + 100);
  }

  static void promise09_least_ofAFullObjectAllBarredToEndIsNot() {
    SoundWords x = States.full();
    for (int w = 0; w < 8; w++) {
      x.grammar(w, -1, -1);
    }
    due("least()", x.least(), NOT);
    x.grammar(3, -1, 0);
    due("one may end it: there is a reading", x.least() >= 0 ? 1 : 0, 1);
  }

  static void promise09_least_ofOneFrameAndOneWord() {
    due("least()", States.feed(States.sharpWords(1), 0).least(), 1);
  }

  static void promise09_least_mayBe0() {
    SoundWords x = States.feed(States.sharpWords(1), 0, 0);
    x.cost(0, 0, 0);
    due("least()", x.least(), 0);
  }

  static void promise09_least_ofFortyFrames() {
    due("least()", States.feedTimes(States.sharpWords(1), 40, 0).least(), 40);
  }

  static void promise09_least_ofTheDearestFortyFrames() {
    SoundWords x = new SoundWords();
    x.word(0, -1, -1, -1);
    for (int mark = 0; mark < 8; mark++) {
      x.cost(0, mark, 50);
    }
    x.stay(20);
    x.grammar(-1, 0, 100);
    x.grammar(0, 0, 100);
    x.grammar(0, -1, 100);
    for (int f = 0; f < 40; f++) {
      x.feed(f % 8);
    }
    due("least()", x.least(), 40 * 50 + 39 * 20 + 200);
  }

  /** The only row is 0, 1: one begins but may not end, the other ends but may not begin. */
  static void promise09_least_paysTheMostGrammarAtEachPlace() {
    SoundWords x = barredToFollow();
    x.grammar(-1, 0, 100);
    x.grammar(0, 1, 100);
    x.grammar(1, -1, 100);
    due("least()", x.least(), 2 + 300);
    row(x, 0, 1);
  }

  static void promise09_least_takesEachFrameOnce() {
    SoundWords x = States.sharp();
    x.word(0, 1, -1, -1);
    due("two words on four frames", States.feed(x, 0, 1, 0, 1).least(), 4);
    due("the fifth is of the second word's last sound", States.feed(x, 1).least(), 4 + 1 + 1);
  }

  static void promise09_least_soundsGoOneBehindTheOther() {
    SoundWords x = States.sharp();
    x.word(0, 1, -1, -1);
    due("in their order", States.feed(x, 0, 1).least(), 2);
    x.hush();
    due("not the other way round", States.feed(x, 1, 0).least(), 50);
  }

  static void promise09_least_eachSoundIsOnOneFrameOrMore() {
    SoundWords x = States.sharp();
    x.word(0, 1, 2, -1);
    due("on two, three and one", States.feed(x, 0, 0, 1, 1, 1, 2).least(), 6 + 1 + 2);
    x.hush();
    due("none is left out", States.feed(x, 0, 2, 2).least(), 1 + 25 + 1);
  }

  static void promise09_least_aWordIsReadByTheCheaperOfItsWays() {
    SoundWords x = States.sharpWords(1);
    x.way(0, 3, -1, -1, -1);
    due("way 0", States.feed(x, 0).least(), 1);
    x.hush();
    due("way 1", States.feed(x, 3).least(), 1);
  }

  static void promise09_least_aWordIsReadByBothWaysInOneRow() {
    SoundWords x = States.sharpWords(1);
    x.way(0, 3, 4, -1, -1);
    due("least()", States.feed(x, 0, 3, 4, 0, 0, 3, 4).least(), 7);
    row(x, 0, 0, 0, 0, 0);
  }

  static void promise09_least_theWaysOfAWordAreNotMixed() {
    SoundWords x = States.sharp();
    x.word(0, 1, -1, -1);
    x.way(0, 2, 3, -1, -1);
    due("the first of way 0, the second of way 1", States.feed(x, 0, 3).least(), 1 + 25);
  }

  static void promise09_least_isFoundAnewBehindEachChange() {
    SoundWords x = States.feed(States.sharpWords(1), 0);
    due("at first", x.least(), 1);
    x.feed(3);
    due("feed", x.least(), 26);
    x.cost(0, 3, 9);
    due("cost", x.least(), 10);
    x.grammar(0, 0, -1);
    due("grammar", x.least(), 11);
    x.stay(5);
    due("stay", x.least(), 15);
    x.word(3, -1, -1, -1);
    due("word", x.least(), 2);
    x.grammar(0, 1, -1);
    due("grammar again", x.least(), 15);
    x.way(0, 0, 3, -1, -1);
    due("way", x.least(), 2);
    x.hush();
    due("hush", x.least(), NOT);
  }

  static void promise09_least_isFoundAnewBehindRenew() {
    SoundWords x = States.oneWordLaid(1);
    due("ahead of it", x.least(), 25);
    x.teach();
    due("behind teach", x.least(), 25);
    x.renew();
    due("behind renew", x.least(), 0);
  }

  static void promise09_least_isWhatItWasBehindARefusedChange() {
    SoundWords x = States.feed(States.sharpWords(1), 0);
    due("at first", x.least(), 1);
    x.feed(8);
    x.cost(0, 0, 51);
    x.stay(21);
    x.word(6, -1, -1, -1);
    x.way(0, 6, -1, -1, -1);
    x.grammar(0, 0, 101);
    due("then", x.least(), 1);
  }

  static void promise09_least_changesNothing() {
    Cases.changesNothing(States::some, SoundWords::least);
    Cases.changesNothing(States::full, SoundWords::least);
  }

  // ---- promise 10: rowSize

  static void promise10_rowSize_withoutAReadingIsNot() {
    Cases.refused(States::blank, NOT, SoundWords::rowSize);
    Cases.refused(ReadingCasesTest::wordsWithoutFrames, NOT, SoundWords::rowSize);
    Cases.refused(ReadingCasesTest::framesWithoutWords, NOT, SoundWords::rowSize);
    Cases.refused(ReadingCasesTest::aFrameTooFew, NOT, SoundWords::rowSize);
    Cases.refused(ReadingCasesTest::barredToBegin, NOT, SoundWords::rowSize);
    Cases.refused(ReadingCasesTest::barredToEnd, NOT, SoundWords::rowSize);
    Cases.refused(ReadingCasesTest::barredToFollow, NOT, SoundWords::rowSize);
  }

  static void promise10_rowSize_ofOneIsTheLeast() {
    due("one frame", States.feed(States.sharpWords(1), 0).rowSize(), 1);
  }

  static void promise10_rowSize_ofOneWordOnFortyFrames() {
    SoundWords x = States.feedTimes(States.sharpWords(1), 40, 0);
    x.grammar(0, 0, -1);
    due("rowSize()", x.rowSize(), 1);
  }

  static void promise10_rowSize_ofFortyIsTheMost() {
    due("rowSize()", States.feedTimes(States.sharpWords(1), 40, 0).rowSize(), 40);
  }

  static void promise10_rowSize_aRowThatAnotherBeginsWithGoesAhead() {
    SoundWords x = States.feedTimes(States.sharpWords(1), 40, 0);
    x.stay(0);
    due("rowSize()", x.rowSize(), 1);
  }

  static void promise10_rowSize_aRowThatAnotherBeginsWithGoesAheadWhateverItsEndCosts() {
    SoundWords x = States.feed(States.sharpWords(1), 0, 0);
    x.stay(0);
    x.grammar(0, -1, 100);
    due("least()", x.least(), 2 + 100);
    due("rowSize()", x.rowSize(), 1);
  }

  static void promise10_rowSize_changesNothing() {
    Cases.changesNothing(States::some, SoundWords::rowSize);
    Cases.changesNothing(States::full, SoundWords::rowSize);
  }

  // ---- promise 11: rowAt

  /** THE ROW is 0, 1, 2. */
  private static SoundWords rowOfThree() {
    return States.feed(States.sharpWords(3), 0, 1, 2);
  }

  static void promise11_rowAt_theFirstIsTold() {
    due("rowAt(0)", rowOfThree().rowAt(0), 0);
  }

  static void promise11_rowAt_minus1IsBad() {
    Cases.refused(ReadingCasesTest::rowOfThree, BAD, x -> x.rowAt(-1));
  }

  static void promise11_rowAt_theLastIsTold() {
    due("rowAt(2)", rowOfThree().rowAt(2), 2);
  }

  static void promise11_rowAt_behindTheLastIsBad() {
    Cases.refused(ReadingCasesTest::rowOfThree, BAD, x -> x.rowAt(3));
  }

  static void promise11_rowAt_theOnlyOneIsTold() {
    SoundWords x = States.feed(States.sharpWords(1), 0);
    due("rowAt(0)", x.rowAt(0), 0);
    due("rowAt(1)", x.rowAt(1), BAD);
  }

  static void promise11_rowAt_theFortiethIsToldAndTheFortyFirstBad() {
    SoundWords x = States.feedTimes(States.sharpWords(2), 40, 1);
    due("rowAt(39)", x.rowAt(39), 1);
    due("rowAt(40)", x.rowAt(40), BAD);
  }

  static void promise11_rowAt_placesFarOutAreBad() {
    for (int far : new int[] {LOW, LOW + 1, -2, 4, 39, 40, 41, HIGH}) {
      Cases.refused(ReadingCasesTest::rowOfThree, BAD, x -> x.rowAt(far));
    }
  }

  static void promise11_rowAt_behindTheLastIsBadWhereALongerRowHasBeen() {
    SoundWords x = States.feedTimes(States.sharpWords(1), 40, 0);
    due("rowAt(39)", x.rowAt(39), 0);
    x.stay(0);
    due("rowAt(0)", x.rowAt(0), 0);
    due("rowAt(1)", x.rowAt(1), BAD);
    due("rowAt(39)", x.rowAt(39), BAD);
  }

  static void promise11_rowAt_withoutAReadingIsNot() {
    Cases.refused(States::blank, NOT, x -> x.rowAt(0));
    Cases.refused(ReadingCasesTest::wordsWithoutFrames, NOT, x -> x.rowAt(0));
    Cases.refused(ReadingCasesTest::framesWithoutWords, NOT, x -> x.rowAt(0));
    Cases.refused(ReadingCasesTest::aFrameTooFew, NOT, x -> x.rowAt(0));
    Cases.refused(ReadingCasesTest::barredToFollow, NOT, x -> x.rowAt(0));
  }

  static void promise11_rowAt_notGoesAheadOfBad() {
    for (int far : new int[] {LOW, -1, 1, 40, 41, HIGH}) {
      Cases.refused(States::blank, NOT, x -> x.rowAt(far));
      Cases.refused(ReadingCasesTest::barredToEnd, NOT, x -> x.rowAt(far));
    }
  }

  static void promise11_rowAt_ofSeveralTheFirstWordDecides() {
    SoundWords x = new SoundWords();
    x.word(0, 0, -1, -1);
    x.word(0, -1, -1, -1);
    row(States.feed(x, 0, 0, 0), 0, 1);
  }

  static void promise11_rowAt_ofSeveralThenTheNextWordDecides() {
    SoundWords x = new SoundWords();
    x.word(0, -1, -1, -1);
    x.word(0, -1, -1, -1);
    States.feed(x, 0, 0, 0);
    row(x, 0, 0, 0);
    x.grammar(0, 0, -1);
    row(x, 0, 1, 0);
    x.grammar(1, 0, -1);
    row(x, 0, 1, 1);
    x.grammar(0, 1, -1);
    row(x, 1, 1, 1);
  }

  /** Word 0 needs its way 1 to cost as little as word 1 does by its way 0. */
  static void promise11_rowAt_ofSeveralTheWordDecidesAndNotTheWay() {
    SoundWords x = States.sharp();
    x.word(5, -1, -1, -1);
    x.way(0, 3, -1, -1, -1);
    x.word(3, -1, -1, -1);
    States.feed(x, 3, 3);
    due("least()", x.least(), 2);
    row(x, 0, 0);
  }

  /** A sound that does not fit costs 24 more than one that does: too much to go another way than 0, 1, 2, 0. */
  static void promise11_rowAt_allIsToldWhereEachPlaceHasItsGrammar() {
    SoundWords x = States.feed(States.sharpWords(3), 0, 1, 2, 0);
    x.grammar(-1, 0, 7);
    x.grammar(0, 1, 5);
    x.grammar(1, 2, 6);
    x.grammar(2, 0, 8);
    x.grammar(0, -1, 9);
    due("least()", x.least(), 4 + 7 + 5 + 6 + 8 + 9);
    row(x, 0, 1, 2, 0);
  }

  static void promise11_rowAt_aCheaperRowGoesAheadOfTheFirst() {
    SoundWords x = new SoundWords();
    x.word(0, -1, -1, -1);
    x.word(0, -1, -1, -1);
    States.feed(x, 0, 0);
    x.grammar(-1, 0, 1);
    row(x, 1, 0);
  }

  /** To stay costs as much as what follows: so all rows cost the same, and 0 begins 0, 0 and 0, 1. */
  static void promise11_rowAt_aRowThatAnotherBeginsWithGoesAhead() {
    SoundWords x = new SoundWords();
    x.word(0, -1, -1, -1);
    x.word(0, -1, -1, -1);
    States.feed(x, 0, 0);
    for (int a = 0; a < 2; a++) {
      x.grammar(a, 0, 1);
      x.grammar(a, 1, 1);
    }
    due("least()", x.least(), 51);
    row(x, 0);
  }

  static void promise11_rowAt_changesNothing() {
    Cases.changesNothing(States::some, x -> x.rowAt(0));
    Cases.changesNothing(States::full, x -> x.rowAt(40));
  }

  // ---- promise 12: beside

  static void promise12_beside_withoutAReadingIsNot() {
    Cases.refused(States::blank, NOT, SoundWords::beside);
    Cases.refused(ReadingCasesTest::wordsWithoutFrames, NOT, SoundWords::beside);
    Cases.refused(ReadingCasesTest::framesWithoutWords, NOT, SoundWords::beside);
    Cases.refused(ReadingCasesTest::aFrameTooFew, NOT, SoundWords::beside);
    Cases.refused(ReadingCasesTest::barredToBegin, NOT, SoundWords::beside);
    Cases.refused(ReadingCasesTest::barredToFollow, NOT, SoundWords::beside);
  }

  static void promise12_beside_ofOneWordIsNone() {
    due("beside()", States.feed(States.sharpWords(1), 0, 0, 0).beside(), NONE);
  }

  static void promise12_beside_isNoneIfAllOthersAreBarredToBegin() {
    SoundWords x = States.feed(States.sharpWords(3), 0, 1, 2);
    x.grammar(-1, 1, -1);
    x.grammar(-1, 2, -1);
    due("beside()", x.beside(), NONE);
    x.grammar(-1, 2, 100);
    due("100 is not barred", x.beside(), 25 + 1 + 1 + 100);
  }

  static void promise12_beside_isNoneIfAllOthersAreTooLong() {
    SoundWords x = States.sharpWords(1);
    x.word(0, 0, -1, -1);
    due("one frame", States.feed(x, 0).beside(), NONE);
    due("two frames", States.feed(x, 0).beside(), 2);
  }

  static void promise12_beside_isNoneIfAllOthersLeadNowhere() {
    SoundWords x = States.feed(States.sharpWords(2), 0, 0);
    x.grammar(1, 0, -1);
    x.grammar(1, 1, -1);
    x.grammar(1, -1, -1);
    due("beside()", x.beside(), NONE);
  }

  static void promise12_beside_mayCostAsMuchAsTheRow() {
    SoundWords x = new SoundWords();
    x.word(0, -1, -1, -1);
    x.word(0, -1, -1, -1);
    States.feed(x, 0);
    due("least()", x.least(), 25);
    due("beside()", x.beside(), 25);
  }

  static void promise12_beside_mayBe0() {
    SoundWords x = new SoundWords();
    x.word(0, -1, -1, -1);
    x.word(0, -1, -1, -1);
    x.cost(0, 0, 0);
    due("beside()", States.feed(x, 0).beside(), 0);
  }

  /** The rows 0, 1 and 0, 0 are nearer than any that begins with 1. */
  static void promise12_beside_isNotAnotherRowWithTheSameFirstWord() {
    SoundWords x = States.feed(States.sharpWords(2), 0, 1);
    x.grammar(-1, 1, 90);
    due("least()", x.least(), 2);
    due("beside()", x.beside(), 25 + 1 + 90);
  }

  /** Word 1 fits by its way 1 on two frames, and word 0 on the third; all joints cost something. */
  static void promise12_beside_isTheCheapestReadingOfAllFrames() {
    SoundWords x = States.sharpWords(1);
    x.word(5, -1, -1, -1);
    x.way(1, 0, 1, -1, -1);
    x.grammar(-1, 1, 3);
    x.grammar(1, 0, 4);
    x.grammar(0, -1, 5);
    States.feed(x, 0, 1, 0);
    due("least()", x.least(), 3 + 1 + 1 + 4 + 1 + 5);
    due("rowAt(0)", x.rowAt(0), 1);
    due("beside()", x.beside(), 1 + 25 + 1 + 5);
    x.grammar(-1, 1, 60);
    due("rowAt(0) then", x.rowAt(0), 0);
    due("beside() then", x.beside(), 60 + 1 + 1 + 4 + 1 + 5);
  }

  static void promise12_beside_isTheEighthWordsIfThatIsNearest() {
    SoundWords x = States.full();
    for (int w = 0; w < 7; w++) {
      x.grammar(-1, w, w == 3 ? 0 : -1);
    }
    x.grammar(-1, 7, 100);
    int with3 = x.least();
    int with7 = x.beside();
    due("rowAt(0)", x.rowAt(0), 3);
    x.grammar(-1, 3, -1);
    due("the eighth word alone may begin", x.least(), with7);
    due("nothing beside it", x.beside(), NONE);
    due("it was dearer", with7 > with3 ? 1 : 0, 1);
  }

  static void promise12_beside_changesNothing() {
    Cases.changesNothing(States::some, SoundWords::beside);
    Cases.changesNothing(States::full, SoundWords::beside);
  }
}
