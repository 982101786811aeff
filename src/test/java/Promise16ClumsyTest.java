/** Promise 16, clumsy: its boundary cases. */
final class Promise16ClumsyTest {
  public static void main(String[] args) {
    nobody();
    ofLikeOnesTheLeast();
    whoFellMostOften();
    Due.end();
  }

  private static void nobody() {
    Due.sentence("16: NONE: nobody");
    Due.due("of nobody", new HumanPyramid().clumsy(), -1);
    Due.due("of ten who stand", Due.told(State.TEN).clumsy(), -1);
    Due.due("of one who cannot climb", Due.told("t11a4").clumsy(), -1);
    Due.due("with a FAULT", Due.told("t11a0;").clumsy(), -1);
    HumanPyramid x = Due.told("s55a0");
    x.event(0, 0, 0);
    x.event(0, 5, 1);
    Due.due("of one who did not FALL by it", x.clumsy(), -1);
  }

  private static void ofLikeOnesTheLeast() {
    Due.sentence("16: of like ones the least");
    for (int a = 0; a < 4; a++) {
      HumanPyramid x = Due.told("s55a0;s55a1;s55a2;s55a3");
      x.event(0, 20, a);
      x.event(0, 4, 3);
      Due.due("clumsy() of " + a + " and 3", x.clumsy(), a);
    }
    Due.due("of three who FALL at once", Due.told("s11a0;s11a1;s99a4").clumsy(), 0);
  }

  private static void whoFellMostOften() {
    Due.sentence("16: who FELL most often");
    for (int a = 0; a < 4; a++) {
      HumanPyramid x = Due.told("s55a0;s55a1;s55a2;s55a3");
      for (int all = 0; all < 4; all++) {
        x.event(0, 4, all);
      }
      x.event(0, 23, a);
      Due.due("clumsy(): " + a + " twice", x.clumsy(), a);
    }
    for (int a = 0; a < 10; a++) {
      HumanPyramid y = Due.told(State.TEN);
      y.event(0, 23, a);
      Due.due("clumsy(): " + a + " and those on top", y.clumsy(), a);
    }
    HumanPyramid z = Due.told(State.TEN);
    z.event(0, 4, 0);
    z.event(0, 10, 9);
    Due.due("0, 4, 7, 9, and 9 again", z.clumsy(), 9);
  }
}
