/** Promise 15, most: its boundary cases. */
final class Promise15MostTest {
  public static void main(String[] args) {
    ofNobody();
    theFirstSuch();
    theLastMoment();
    tenAtMost();
    othersAreBad();
    Due.end();
  }

  private static void most(String what, HumanPyramid x, int many, int first) {
    Due.due(what + ": most(0)", x.most(0), many);
    Due.due(what + ": most(1)", x.most(1), first);
  }

  private static void ofNobody() {
    Due.sentence("15: how many stand at most: 0, first behind MOMENT 0");
    most("nobody", new HumanPyramid(), 0, 0);
    most("one who cannot climb", Due.told("s11a4"), 0, 0);
    most("with a FAULT", Due.told("s11a0;"), 0, 0);
  }

  private static void theFirstSuch() {
    Due.sentence("15: the first such");
    most("all the time", Due.told("s55a0"), 1, 0);
    HumanPyramid x = Due.told("s55a0;s55c1");
    most("from 2 on", x, 2, 2);
    x.event(0, 5, 0);
    most("from 2 to 4, and from 8 on", x, 2, 2);
    x.event(0, 2, 0);
    // 0 lies in 2 to 4, and does not SNEEZE when one comes in 5: the EVENTS come first
    most("from 5 on", x, 2, 5);
  }

  private static void theLastMoment() {
    Due.sentence("15: behind a MOMENT, 0 to 23");
    for (int m = 1; m < 24; m++) {
      most("one more from " + m + " on", Due.told("s55a0;s55" + (char) ('a' + m) + "1"), 2, m);
    }
  }

  private static void tenAtMost() {
    Due.sentence("15: ten at most");
    most("ten", Due.told(State.TEN), 10, 0);
    most("nine, and ten in 23", Due.told(State.ten("c19x9")), 10, 23);
    most("nine", Due.told(State.TEN.substring(0, 53)), 9, 0);
  }

  private static void othersAreBad() {
    Due.sentence("15: BAD");
    for (int b : new int[] {-1, 2, Refused.LEAST, Refused.GREATEST}) {
      Refused.bad("most(" + b + ")", x -> x.most(b));
    }
  }
}
