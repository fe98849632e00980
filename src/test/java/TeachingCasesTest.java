/** The boundary cases of promises 18 to 21: teaching. Each case says in its name what it is. */
public final class TeachingCasesTest {
  private static final int BAD = -2, NOT = -3;
  private static final int LOW = Integer.MIN_VALUE, HIGH = Integer.MAX_VALUE;

  public static void main(String[] args) throws IllegalAccessException {
    Cases.run(TeachingCasesTest.class, 18, 21);
  }

  private static void due(String what, int got, int want) {
    Cases.due(what, got, want);
  }

  /** Teaching n is of n frames, the n-th of which has mark n % 8; so each tells by its frames which it is. */
  private static SoundWords growingTeachings(int teachings) {
    SoundWords x = States.oneWordTold();
    for (int n = 1; n <= teachings; n++) {
      x.feed(n % 8);
      x.lay();
      x.teach();
    }
    return x;
  }

  private static SoundWords nothingLaid() {
    return States.feed(States.oneWordTold(), 0, 1);
  }

  // ---- promise 18: teach

  static void promise18_teach_ofANewObjectIsNot() {
    Cases.refused(States::blank, NOT, SoundWords::teach);
  }

  static void promise18_teach_withNothingLaidYetIsNot() {
    Cases.refused(TeachingCasesTest::nothingLaid, NOT, SoundWords::teach);
  }

  static void promise18_teach_behindALayThatIsRefusedIsNot() {
    Cases.refused(TeachingCasesTest::layRefused, NOT, SoundWords::teach);
  }

  private static SoundWords layRefused() {
    SoundWords x = States.oneWordLaid(1);
    x.teach();
    x.say(0);
    x.lay();
    return x;
  }

  static void promise18_teach_behindAChangeOfWhatItLeansOnIsNot() {
    Cases.refused(TeachingCasesTest::fullButFedAnew, NOT, SoundWords::teach);
  }

  private static SoundWords fullButFedAnew() {
    SoundWords x = States.full();
    x.hush();
    return States.feed(x, 0, 1, 2);
  }

  static void promise18_teach_ofOneFrameAnswers1() {
    SoundWords x = States.oneWordLaid(1);
    due("teach()", x.teach(), 1);
    due("taught(0, 0)", x.taught(0, 0), 1);
    due("count(3)", x.count(3), 1);
  }

  static void promise18_teach_ofFortyFramesAnswers40() {
    SoundWords x = States.oneWordLaid(40);
    due("teach()", x.teach(), 40);
    due("taught(0, 0)", x.taught(0, 0), 40);
  }

  static void promise18_teach_countsNoLostFrame() {
    SoundWords x = States.feed(States.oneWordTold(), -1, 7, -1, 7, 0, -1);
    x.lay();
    due("teach()", x.teach(), 3);
    due("taught(0, 7)", x.taught(0, 7), 2);
    due("taught(0, 0)", x.taught(0, 0), 1);
  }

  static void promise18_teach_ofLostFramesAloneAnswers0AndIsKept() {
    SoundWords x = States.feedTimes(States.oneWordTold(), 40, -1);
    x.lay();
    due("teach()", x.teach(), 0);
    due("count(3)", x.count(3), 1);
    due("renew()", x.renew(), 0);
    due("unteach()", x.unteach(), 0);
    due("unteach() again", x.unteach(), NOT);
  }

  static void promise18_teach_keepsWhatIsLaid() {
    Cases.keepsWhatIsLaid(States::some, SoundWords::teach);
    Cases.keepsWhatIsLaid(States::full, SoundWords::teach);
  }

  static void promise18_teach_againCountsAgain() {
    SoundWords x = States.oneWordLaid(3);
    due("teach()", x.teach(), 3);
    due("teach() again", x.teach(), 3);
    due("taught(0, 0)", x.taught(0, 0), 6);
    due("count(3)", x.count(3), 2);
  }

  static void promise18_teach_theSixteenthIsKeptBesideAllOthers() {
    SoundWords x = States.teachTimes(States.oneWordLaid(1), 15);
    due("count(3) ahead of it", x.count(3), 15);
    due("teach()", x.teach(), 1);
    due("count(3)", x.count(3), 16);
    due("taught(0, 0)", x.taught(0, 0), 16);
  }

  static void promise18_teach_theSeventeenthIsCountedAndStillSixteenAreKept() {
    SoundWords x = States.teachTimes(States.oneWordLaid(1), 16);
    due("teach()", x.teach(), 1);
    due("count(3)", x.count(3), 16);
    due("taught(0, 0)", x.taught(0, 0), 17);
  }

  static void promise18_teach_changesNoCost() {
    SoundWords x = States.oneWordLaid(2);
    x.teach();
    due("lay()", x.lay(), 51);
    due("cost(0, 0, 25)", x.cost(0, 0, 25), 25);
  }

  static void promise18_teach_countsBySoundAsLaid() {
    SoundWords x = States.say(States.feed(States.sharpWords(2), 1, 0), 0, 1);
    x.lay();
    due("teach()", x.teach(), 2);
    due("taught(0, 1)", x.taught(0, 1), 1);
    due("taught(1, 0)", x.taught(1, 0), 1);
    due("taught(0, 0)", x.taught(0, 0), 0);
    due("taught(1, 1)", x.taught(1, 1), 0);
  }

  // ---- promise 19: unteach

  static void promise19_unteach_ofANewObjectIsNot() {
    Cases.refused(States::blank, NOT, SoundWords::unteach);
  }

  static void promise19_unteach_withNoneTaughtYetIsNot() {
    Cases.refused(() -> States.oneWordLaid(3), NOT, SoundWords::unteach);
  }

  static void promise19_unteach_ofTheOnlyOneLeavesNoCounts() {
    SoundWords x = States.teachTimes(States.oneWordLaid(3), 1);
    due("unteach()", x.unteach(), 3);
    due("taught(0, 0)", x.taught(0, 0), 0);
    due("count(3)", x.count(3), 0);
    due("renew()", x.renew(), 0);
  }

  static void promise19_unteach_behindTheLastThatWasKeptIsNot() {
    Cases.refused(TeachingCasesTest::taughtAndUntaught, NOT, SoundWords::unteach);
  }

  private static SoundWords taughtAndUntaught() {
    SoundWords x = States.teachTimes(States.oneWordLaid(3), 2);
    x.unteach();
    x.unteach();
    return x;
  }

  static void promise19_unteach_takesTheLatestFirst() {
    SoundWords x = growingTeachings(3);
    due("the third", x.unteach(), 3);
    due("the second", x.unteach(), 2);
    due("the first", x.unteach(), 1);
    due("no more", x.unteach(), NOT);
  }

  static void promise19_unteach_takesTheLatestThatIsNotTakenBackYet() {
    SoundWords x = growingTeachings(3);
    x.unteach();
    x.unteach();
    x.teach();
    due("the one behind them", x.unteach(), 3);
    due("the first", x.unteach(), 1);
    due("no more", x.unteach(), NOT);
  }

  static void promise19_unteach_takesBackAllSixteen() {
    SoundWords x = growingTeachings(16);
    for (int n = 16; n >= 1; n--) {
      due("teaching " + n, x.unteach(), n);
      due("count(3)", x.count(3), n - 1);
    }
    due("no more", x.unteach(), NOT);
    for (int mark = 0; mark < 8; mark++) {
      due("taught(0, " + mark + ")", x.taught(0, mark), 0);
    }
  }

  static void promise19_unteach_ofSeventeenTheEldestIsForgottenAndStays() {
    SoundWords x = growingTeachings(17);
    for (int n = 17; n >= 2; n--) {
      due("teaching " + n, x.unteach(), n);
    }
    due("the first", x.unteach(), NOT);
    due("count(3)", x.count(3), 0);
    due("taught(0, 1)", x.taught(0, 1), 1);
    due("taught(0, 2)", x.taught(0, 2), 0);
  }

  static void promise19_unteach_ofFortyTheTwentyFourEldestAreForgottenAndStay() {
    SoundWords x = growingTeachings(40);
    for (int n = 40; n >= 25; n--) {
      due("teaching " + n, x.unteach(), n);
    }
    due("teaching 24", x.unteach(), NOT);
    due("taught(0, 1), by frames 1, 9 and 17", x.taught(0, 1), 24 + 16 + 8);
    due("taught(0, 0), by frames 8, 16 and 24", x.taught(0, 0), 17 + 9 + 1);
  }

  static void promise19_unteach_refusedWithForgottenOnesChangesNothing() {
    Cases.refused(TeachingCasesTest::sixteenTakenBackOfSeventeen, NOT, SoundWords::unteach);
  }

  private static SoundWords sixteenTakenBackOfSeventeen() {
    SoundWords x = States.full();
    for (int n = 0; n < 16; n++) {
      x.unteach();
    }
    return x;
  }

  static void promise19_unteach_makesRoomForAnotherAndNoneIsForgotten() {
    SoundWords x = growingTeachings(16);
    due("the sixteenth", x.unteach(), 16);
    due("another", x.teach(), 16);
    due("count(3)", x.count(3), 16);
    for (int n = 16; n >= 1; n--) {
      due("teaching " + n, x.unteach(), n);
    }
    due("no more", x.unteach(), NOT);
    due("taught(0, 1)", x.taught(0, 1), 0);
  }

  static void promise19_unteach_andTeachInTurnKeepTheirOrder() {
    SoundWords x = growingTeachings(20);
    for (int turn = 0; turn < 40; turn++) {
      due("unteach() in turn " + turn, x.unteach(), 20);
      due("teach() in turn " + turn, x.teach(), 20);
      due("count(3) in turn " + turn, x.count(3), 16);
    }
    for (int n = 20; n >= 5; n--) {
      due("teaching " + n, x.unteach(), n);
    }
    due("no more", x.unteach(), NOT);
  }

  static void promise19_unteach_needsNothingLaid() {
    SoundWords x = States.full();
    x.hush();
    x.unsay();
    due("count(4)", x.count(4), 0);
    due("unteach()", x.unteach(), 35);
    due("count(3)", x.count(3), 15);
  }

  static void promise19_unteach_keepsWhatIsLaid() {
    Cases.keepsWhatIsLaid(States::some, SoundWords::unteach);
    Cases.keepsWhatIsLaid(States::full, SoundWords::unteach);
  }

  static void promise19_unteach_refusedKeepsWhatIsLaid() {
    Cases.keepsWhatIsLaid(() -> States.oneWordLaid(3), SoundWords::unteach);
  }

  static void promise19_unteach_changesNoCost() {
    SoundWords x = States.teachTimes(States.oneWordLaid(2), 1);
    x.renew();
    x.unteach();
    due("cost(0, 0, 0)", x.cost(0, 0, 0), 0);
    due("cost(0, 1, 50)", x.cost(0, 1, 50), 50);
  }

  // ---- promise 20: taught

  static void promise20_taught_sounds0And5AreTold() {
    SoundWords x = new SoundWords();
    x.word(0, 5, -1, -1);
    States.say(States.feed(x, 3, 3), 0).lay();
    x.teach();
    due("taught(0, 3)", x.taught(0, 3), 1);
    due("taught(5, 3)", x.taught(5, 3), 1);
  }

  static void promise20_taught_soundMinus1IsBad() {
    Cases.refused(States::blank, BAD, x -> x.taught(-1, 0));
    Cases.refused(States::some, BAD, x -> x.taught(-1, 0));
  }

  static void promise20_taught_sound6IsBad() {
    Cases.refused(States::blank, BAD, x -> x.taught(6, 0));
    Cases.refused(States::some, BAD, x -> x.taught(6, 0));
  }

  static void promise20_taught_marks0And7AreTold() {
    SoundWords x = States.feed(States.oneWordTold(), 0, 7, 7);
    x.lay();
    x.teach();
    due("taught(0, 0)", x.taught(0, 0), 1);
    due("taught(0, 7)", x.taught(0, 7), 2);
  }

  static void promise20_taught_lostIsNoMarkAndBad() {
    Cases.refused(States::blank, BAD, x -> x.taught(0, -1));
    Cases.refused(States::some, BAD, x -> x.taught(0, -1));
  }

  static void promise20_taught_mark8IsBad() {
    Cases.refused(States::blank, BAD, x -> x.taught(0, 8));
    Cases.refused(States::some, BAD, x -> x.taught(0, 8));
  }

  static void promise20_taught_numbersFarOutAreBad() {
    for (int far : new int[] {LOW, LOW + 1, -2, 9, 48, 256, HIGH}) {
      Cases.refused(States::some, BAD, x -> x.taught(far, 0));
      Cases.refused(States::some, BAD, x -> x.taught(0, far));
    }
  }

  static void promise20_taught_markBehindTheLastIsNotTheNextSoundsFirst() {
    SoundWords x = States.say(States.feed(States.sharpWords(2), 0), 1);
    x.lay();
    x.teach();
    due("taught(1, 0)", x.taught(1, 0), 1);
    due("taught(0, 8)", x.taught(0, 8), BAD);
    due("taught(2, -8)", x.taught(2, -8), BAD);
  }

  static void promise20_taught_ofAsMuchAs512CallsCanTeach() {
    SoundWords x = States.oneWordLaid(40);
    States.teachTimes(x, 460);
    due("taught(0, 0)", x.taught(0, 0), 460 * 40);
    due("count(3)", x.count(3), 16);
  }

  static void promise20_taught_countsStayBehindAllElse() {
    SoundWords x = States.teachTimes(States.oneWordLaid(3), 1);
    x.hush();
    x.unsay();
    x.renew();
    x.cost(0, 0, 9);
    x.word(1, -1, -1, -1);
    x.way(0, 2, -1, -1, -1);
    due("taught(0, 0)", x.taught(0, 0), 3);
  }

  static void promise20_taught_changesNothing() {
    Cases.changesNothing(States::some, x -> x.taught(0, 0));
    Cases.changesNothing(States::full, x -> x.taught(5, 7));
  }

  // ---- promise 21: renew

  static void promise21_renew_withNoCountsAnswers0AndChangesNoCost() {
    SoundWords x = new SoundWords();
    x.cost(3, 3, 7);
    due("renew()", x.renew(), 0);
    due("cost(3, 3, 7)", x.cost(3, 3, 7), 7);
    due("cost(0, 0, 25)", x.cost(0, 0, 25), 25);
  }

  static void promise21_renew_ofAllSixSoundsAnswers6() {
    SoundWords x = States.say(States.feed(States.sharpWords(6), 0, 1, 2, 3, 4, 5), 0, 1, 2, 3, 4, 5);
    x.lay();
    x.teach();
    due("renew()", x.renew(), 6);
    for (int sound = 0; sound < 6; sound++) {
      for (int mark = 0; mark < 8; mark++) {
        int want = sound == mark ? 0 : 50;
        due("cost(" + sound + ", " + mark + ", ..)", x.cost(sound, mark, want), want);
      }
    }
  }

  static void promise21_renew_ofOneSoundLeavesTheOthers() {
    SoundWords x = States.teachTimes(States.oneWordLaid(1), 1);
    x.cost(1, 0, 7);
    due("renew()", x.renew(), 1);
    due("cost(0, 0, 0)", x.cost(0, 0, 0), 0);
    due("cost(1, 0, 7)", x.cost(1, 0, 7), 7);
    due("cost(5, 7, 25)", x.cost(5, 7, 25), 25);
  }

  static void promise21_renew_aMarkThatHasAllCountsCosts0() {
    SoundWords x = States.teachTimes(States.oneWordLaid(40), 3);
    x.renew();
    due("cost(0, 0, 0)", x.cost(0, 0, 0), 0);
  }

  static void promise21_renew_aMarkThatHasNoCountsCosts50() {
    SoundWords x = States.teachTimes(States.oneWordLaid(40), 3);
    x.renew();
    for (int mark = 1; mark < 8; mark++) {
      due("cost(0, " + mark + ", 50)", x.cost(0, mark, 50), 50);
    }
  }

  /** Of three frames, one of mark 0 and two of mark 1: 33 and a third, 16 and two thirds. */
  static void promise21_renew_isCut() {
    SoundWords x = States.feed(States.oneWordTold(), 0, 1, 1);
    x.lay();
    x.teach();
    x.renew();
    due("cost(0, 0, 33)", x.cost(0, 0, 33), 33);
    due("cost(0, 1, 16)", x.cost(0, 1, 16), 16);
  }

  /** Mark 0 has 39 of 40 counts: 1 and a quarter; mark 1 has one: 48 and three quarters. */
  static void promise21_renew_ofAsManyCountsAs512CallsCanTeach() {
    SoundWords x = States.feed(States.feedTimes(States.oneWordTold(), 39, 0), 1);
    x.lay();
    States.teachTimes(x, 460);
    due("renew()", x.renew(), 1);
    due("cost(0, 0, 1)", x.cost(0, 0, 1), 1);
    due("cost(0, 1, 48)", x.cost(0, 1, 48), 48);
    due("cost(0, 2, 50)", x.cost(0, 2, 50), 50);
  }

  static void promise21_renew_aLostFrameStaysAt10() {
    SoundWords x = States.teachTimes(States.oneWordLaid(1), 1);
    x.renew();
    x.hush();
    due("least()", States.feed(x, -1).least(), 10);
  }

  static void promise21_renew_againIsFromTheCountsAlone() {
    SoundWords x = States.teachTimes(States.oneWordLaid(1), 1);
    x.renew();
    x.cost(0, 0, 9);
    due("renew() again", x.renew(), 1);
    due("cost(0, 0, 0)", x.cost(0, 0, 0), 0);
  }

  static void promise21_renew_behindUnteachOfAllAnswers0AndLeavesTheCosts() {
    SoundWords x = States.teachTimes(States.oneWordLaid(1), 1);
    x.renew();
    x.unteach();
    due("renew()", x.renew(), 0);
    due("cost(0, 0, 0)", x.cost(0, 0, 0), 0);
    due("cost(0, 1, 50)", x.cost(0, 1, 50), 50);
  }

  static void promise21_renew_countsForgottenTeachingsToo() {
    SoundWords x = growingTeachings(17);
    for (int n = 0; n < 16; n++) {
      x.unteach();
    }
    due("renew()", x.renew(), 1);
    due("cost(0, 1, 0)", x.cost(0, 1, 0), 0);
    due("cost(0, 2, 50)", x.cost(0, 2, 50), 50);
  }

  static void promise21_renew_leavesCountsAndTeachings() {
    SoundWords x = States.teachTimes(States.oneWordLaid(3), 2);
    x.renew();
    due("taught(0, 0)", x.taught(0, 0), 6);
    due("count(3)", x.count(3), 2);
    due("unteach()", x.unteach(), 3);
  }

  static void promise21_renew_endsWhatIsLaid() {
    Cases.endsWhatIsLaid(States::some, SoundWords::renew);
    Cases.endsWhatIsLaid(States::full, SoundWords::renew);
  }

  static void promise21_renew_ofNoSoundEndsWhatIsLaid() {
    Cases.endsWhatIsLaid(() -> States.oneWordLaid(3), SoundWords::renew);
  }
}
