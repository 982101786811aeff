/** Promise 14, top: its boundary cases. */
final class Promise14TopTest {
  public static void main(String[] args) {
    neverTaken();
    fromWhenOn();
    takenAgain();
    othersAreBad();
    Due.end();
  }

  private static void top(String what, HumanPyramid x, int first, int many) {
    Due.due(what + ": top(0)", x.top(0), first);
    Due.due(what + ": top(1)", x.top(1), many);
  }

  private static void neverTaken() {
    Due.sentence("14: NONE: none (0)");
    top("nobody", new HumanPyramid(), -1, 0);
    top("nobody on it", Due.told(State.TEN.substring(0, 53)), -1, 0);
    top("one who cannot climb", Due.told("s11a9"), -1, 0);
    top("with a FAULT", Due.told(State.TEN.substring(0, 58)), -1, 0);
    // who FALLS in the MOMENT of climbing is not there behind it
    top("who makes it give way", Due.told(State.ten("s11a1")), -1, 0);
  }

  private static void fromWhenOn() {
    Due.sentence("14: the first MOMENT behind which PLACE 9 is taken; behind how many it is");
    for (int m = 0; m < 24; m++) {
      top("comes in " + m, Due.told(State.ten("c19" + (char) ('a' + m) + "9")), m, 24 - m);
    }
  }

  private static void takenAgain() {
    Due.sentence("14: behind how many it is, together");
    HumanPyramid x = Due.told(State.TEN);
    x.event(0, 5, 9);
    top("lost in 5 to 7", x, 0, 21);
    x.event(2, 0, 9);
    top("and held in 0", x, 1, 20);
    x.event(0, 22, 3);
    top("and lost from 22 on", x, 1, 18);
    HumanPyramid y = Due.told(State.ten("c19x9"));
    y.event(2, 23, 9);
    top("held in the last MOMENT", y, -1, 0);
  }

  private static void othersAreBad() {
    Due.sentence("14: BAD");
    for (int b : new int[] {-1, 2, Refused.LEAST, Refused.GREATEST}) {
      Refused.bad("top(" + b + ")", x -> x.top(b));
    }
  }
}
