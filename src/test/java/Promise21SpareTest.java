/** Promise 21, spare: its boundary cases. */
final class Promise21SpareTest {
  public static void main(String[] args) {
    noneAtAll();
    one();
    two();
    moreThanTwo();
    ofLikeOnesTheLeastRow();
    theFirstAndTheLast();
    ofWhatIsToldAtTheTime();
    nothingIsSpared();
    othersAreBad();
    Due.end();
  }

  private static void spare(String what, HumanPyramid x, int many, int first, int second) {
    Due.due(what + ": spare(-1)", x.spare(-1), many);
    Due.due(what + ": spare(0)", x.spare(0), first);
    Due.due(what + ": spare(1)", x.spare(1), second);
  }

  /** One who stands at PLACE 0, and SNEEZES in these MOMENTS. */
  private static HumanPyramid sneezing(int... moments) {
    HumanPyramid x = Due.told("s55a0");
    for (int m : moments) {
      x.event(0, m, 0);
    }
    return x;
  }

  private static void noneAtAll() {
    Due.sentence("21: how many: 0; the i-th: NONE");
    spare("nobody", new HumanPyramid(), 0, -1, -1);
    spare("no EVENTS", sneezing(), 0, -1, -1);
    spare("nobody FALLS by it", sneezing(0), 0, -1, -1);
    HumanPyramid x = new HumanPyramid();
    x.event(0, 5, 0);
    spare("of nobody", x, 0, -1, -1);
    HumanPyramid y = Due.told("s55a0;");
    y.event(0, 5, 0);
    spare("with a FAULT", y, 0, -1, -1);
    HumanPyramid z = sneezing();
    for (int i = 0; i < 8; i++) {
      z.event(1 + i % 2, 5 + i, 0);
    }
    spare("eight that harm nobody", z, 0, -1, -1);
  }

  private static void one() {
    Due.sentence("21: how many: 1");
    for (int m = 1; m < 24; m++) {
      spare("a sneeze in " + m, sneezing(m), 1, 0, -1);
      spare("one in 0 and one in " + m, sneezing(0, m), 1, 1, -1);
    }
  }

  private static void two() {
    Due.sentence("21: how many: 2");
    spare("two", sneezing(4, 12), 2, 0, 1);
    spare("the later first", sneezing(12, 4), 2, 0, 1);
    spare("twice in one MOMENT", sneezing(4, 4), 2, 0, 1);
    // without the first, the second would make one FALL who lies when both are
    spare("one while one lies", sneezing(4, 6), 2, 0, 1);
    spare("with one that harms nobody between", sneezing(4, 0, 12), 2, 0, 2);
  }

  private static void moreThanTwo() {
    Due.sentence("21: 0 to 2; NONE");
    spare("three", sneezing(4, 12, 20), -1, -1, -1);
    spare("eight", sneezing(1, 2, 3, 4, 5, 6, 7, 8), -1, -1, -1);
    spare("who FALLS without any", Due.told("t51a0"), -1, -1, -1);
    HumanPyramid x = Due.told("t51a0");
    x.event(1, 2, 0);
    spare("and with one", x, -1, -1, -1);
    // in the last MOMENT too
    spare("crushed in 23", Due.told("s11a0;s11a1;s99x4"), -1, -1, -1);
  }

  private static void ofLikeOnesTheLeastRow() {
    Due.sentence("21: the fewest, of like ones the least row (each more than the one ahead)");
    HumanPyramid x = Due.told("s55a0;s55a1");
    x.event(0, 0, 0);
    x.event(0, 9, 1);
    spare("the second alone", x, 1, 1, -1);
    // a sneeze keeps a heavy one off: without it all FALL in 23, with it one FALLS in 22
    HumanPyramid y = Due.told("s11a0;s11a1;s99x4");
    y.event(0, 22, 0);
    spare("none can be spared", y, -1, -1, -1);
    // being HELD keeps them well, and must not be spared: the fewest are none
    HumanPyramid z = Due.told("s11a0;s11a1;s99x4");
    z.event(2, 23, 2);
    z.event(2, 23, 2);
    spare("held twice", z, 0, -1, -1);
    z.event(0, 5, 0);
    spare("and a sneeze", z, 1, 2, -1);
    z.event(0, 5, 1);
    spare("and another", z, 2, 2, 3);
  }

  private static void theFirstAndTheLast() {
    Due.sentence("21: EVENTS 0 to 7");
    for (int i = 0; i < 8; i++) {
      for (int j = i + 1; j < 8; j++) {
        HumanPyramid x = Due.told("s55a0");
        for (int k = 0; k < 8; k++) {
          x.event(k == i || k == j ? 0 : 1, 10, 0);
        }
        spare(i + " and " + j, x, 2, i, j);
      }
      HumanPyramid y = Due.told("s55a0");
      for (int k = 0; k < 8; k++) {
        y.event(k == i ? 0 : 2, 10, 0);
      }
      spare(i + " alone", y, 1, i, -1);
    }
  }

  private static void ofWhatIsToldAtTheTime() {
    Due.sentence("21: of the ACROBATS and EVENTS there are");
    HumanPyramid x = sneezing(4);
    spare("a sneeze", x, 1, 0, -1);
    x.event(0, 12, 0);
    spare("two", x, 2, 0, 1);
    x.back();
    spare("one", x, 1, 0, -1);
    x.back();
    spare("none", x, 0, -1, -1);
    x.event(1, 4, 0);
    spare("another in its place", x, 0, -1, -1);
    x.back();
    x.event(0, 4, 0);
    x.undo();
    spare("with a FAULT", x, 0, -1, -1);
    x.type('1');
    spare("at PLACE 1", x, 1, 0, -1);
    x.wipe();
    Due.typeAll(x, "t51a0");
    spare("one who trembles", x, -1, -1, -1);
  }

  private static void nothingIsSpared() {
    Due.sentence("21: what had better not be is not undone");
    HumanPyramid x = sneezing(4, 12);
    spare("two", x, 2, 0, 1);
    Due.due("count(2)", x.count(2), 2);
    Due.due("sum(1)", x.sum(1), 2);
  }

  private static void othersAreBad() {
    Due.sentence("21: i = NONE, 0, 1; BAD");
    for (int b : new int[] {-2, 2, Refused.LEAST, Refused.GREATEST}) {
      Refused.bad("spare(" + b + ")", x -> x.spare(b));
    }
  }
}
