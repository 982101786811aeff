/** Promise 18, swap: its boundary cases. */
final class Promise18SwapTest {
  public static void main(String[] args) {
    lessThanTwo();
    two();
    ofLikeOnesTheLeastRow();
    theFirstIsLess();
    theFirstPairAndTheLast();
    placesChangeAlone();
    ofWhatIsToldAtTheTime();
    nothingIsSwapped();
    othersAreBad();
    Due.end();
  }

  private static void swap(String what, HumanPyramid x, int first, int other, int much) {
    Due.due(what + ": swap(0)", x.swap(0), first);
    Due.due(what + ": swap(1)", x.swap(1), other);
    Due.due(what + ": swap(2)", x.swap(2), much);
  }

  private static void lessThanTwo() {
    Due.sentence("18: NONE: there are less than two");
    swap("none", new HumanPyramid(), -1, -1, -1);
    swap("one", Due.told("s55a0"), -1, -1, -1);
    swap("with a FAULT", Due.told("s55a0;s55a1;"), -1, -1, -1);
  }

  private static void two() {
    Due.sentence("18: the two who had better change PLACES");
    swap("none the worse", Due.told("s55a0;s55a1"), 0, 1, 48);
    // two change, though it is worse
    swap("worse", Due.told("s51a0;t51a4"), 0, 1, 15);
    swap("better", Due.told("t51a0;s51a4"), 0, 1, 24);
    swap("of nobody who can stand", Due.told("s11a4;s11a5"), 0, 1, 0);
  }

  private static void ofLikeOnesTheLeastRow() {
    Due.sentence("18: so that STANDING is most, of like ones the least row");
    swap("all alike", Due.told(State.TEN), 0, 1, 240);
    // either steady one may come to the ground
    swap("0 and 1, 0 and 2", Due.told("t51a0;s51a4;s51a5"), 0, 1, 24);
    swap("0 and 2, 1 and 2", Due.told("s51a4;s51a5;t51a0"), 0, 2, 24);
    swap("1 and 2, 1 and 3", Due.told("t51a9;t51a0;s51a4;s51a5"), 1, 2, 24);
  }

  private static void theFirstIsLess() {
    Due.sentence("18: the first less");
    swap("0 and 2", Due.told("s51a4;t51a5;t51a0"), 0, 2, 24);
    swap("2 and 3", Due.told("t51a4;t51a5;t51a0;s51a9"), 2, 3, 24);
  }

  private static void theFirstPairAndTheLast() {
    Due.sentence("18: ACROBATS 0 to 9");
    // whoever is at PLACE 9 climbs ahead of who is at 8, a MOMENT later therefore: but for this all would stand
    String ten = "c19a0;c19a1;c19a2;c19a3;c19a4;c19a5;c19a6;c19a7;c19a9;c19a8";
    Due.due("sum(0)", Due.told(ten).sum(0), 239);
    swap("8 and 9", Due.told(ten), 8, 9, 240);
    swap("0 and 6", Due.told("t51a0;t51a4;t51a5;t51a6;t51a7;t51a8;s51a9"), 0, 6, 24);
  }

  private static void placesChangeAlone() {
    Due.sentence("18: they change PLACES, and nothing else");
    // 1 is there from 10 on wherever one stands
    swap("the MOMENTS stay", Due.told("s51a0;s51k4"), 0, 1, 14);
    // the EVENTS are those of the same ACROBATS
    HumanPyramid x = Due.told("s55a0;s55a4");
    x.event(0, 20, 0);
    swap("the sneezes stay", x, 0, 1, 24);
    x.event(0, 20, 1);
    swap("the sneezes stay", x, 0, 1, 21);
  }

  private static void ofWhatIsToldAtTheTime() {
    Due.sentence("18: of the ACROBATS and EVENTS there are");
    HumanPyramid x = Due.told("t51a0;s51a4");
    swap("two", x, 0, 1, 24);
    x.event(0, 20, 1);
    swap("with a sneeze", x, 0, 1, 21);
    x.back();
    swap("without it", x, 0, 1, 24);
    x.undo();
    swap("with a FAULT", x, -1, -1, -1);
    x.type('1');
    swap("on the ground", x, 0, 1, 39);
    x.wipe();
    swap("none", x, -1, -1, -1);
  }

  private static void nothingIsSwapped() {
    Due.sentence("18: what had better be is not done");
    HumanPyramid x = Due.told("t51a0;s51a4");
    swap("better", x, 0, 1, 24);
    Due.due("acrobat(0, 4)", x.acrobat(0, 4), 0);
    Due.due("acrobat(1, 4)", x.acrobat(1, 4), 4);
    Due.due("sum(0)", x.sum(0), 15);
  }

  private static void othersAreBad() {
    Due.sentence("18: BAD");
    for (int b : new int[] {-1, 3, Refused.LEAST, Refused.GREATEST}) {
      Refused.bad("swap(" + b + ")", x -> x.swap(b));
    }
  }
}
