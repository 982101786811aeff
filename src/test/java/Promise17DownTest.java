/** Promise 17, down: its boundary cases. */
final class Promise17DownTest {
  public static void main(String[] args) {
    noneOfNobody();
    eachBit();
    allBits();
    whoStandsOnce();
    whoFallsInTheMomentOfClimbing();
    Due.end();
  }

  private static void noneOfNobody() {
    Due.sentence("17: as bits; none");
    Due.due("of nobody", new HumanPyramid().down(), 0);
    Due.due("of ten who stand", Due.told(State.TEN).down(), 0);
    Due.due("with a FAULT", Due.told("s11a4;").down(), 0);
  }

  private static void eachBit() {
    Due.sentence("17: who never stands behind a MOMENT");
    // whoever comes in the last MOMENT and is HELD then; those on top come a MOMENT earlier and stand
    for (int a = 0; a < 4; a++) {
      StringBuilder text = new StringBuilder("c19a0;c19a1;c19a2;c19a3");
      text.setCharAt(6 * a + 3, 'x');
      HumanPyramid x = Due.told(text.toString());
      x.event(2, 23, a);
      Due.due("down() without " + a, x.down(), 1 << a);
    }
    HumanPyramid y = Due.told(State.ten("c19x9"));
    y.event(2, 23, 9);
    Due.due("down() without 9", y.down(), 1 << 9);
  }

  private static void allBits() {
    Due.sentence("17: ten bits");
    Due.due("ten who are crushed", Due.told("s91a0;s91a1;s91a2;s91a3;s91a4;s91a5;s91a6;s91a7;s91a8;s91a9").down(), 1023);
    Due.due("six without a ground", Due.told("s11a4;s11a5;s11a6;s11a7;s11a8;s11a9").down(), 63);
  }

  private static void whoStandsOnce() {
    Due.sentence("17: never, not behind one MOMENT");
    Due.due("from 23 on", Due.told("s11x0").down(), 0);
    HumanPyramid x = Due.told("s11x0");
    x.event(2, 23, 0);
    Due.due("not even then", x.down(), 1);
    HumanPyramid y = Due.told("s11a0;s11w1");
    y.event(0, 23, 1);
    Due.due("behind 22 alone", y.down(), 0);
    y.event(2, 22, 1);
    Due.due("behind 23 alone", y.down(), 0);
    y.event(2, 23, 1);
    Due.due("not even then", y.down(), 2);
  }

  private static void whoFallsInTheMomentOfClimbing() {
    Due.sentence("17: who FALLS in the MOMENT of climbing does not stand behind it");
    Due.due("0, 1 and 2", Due.told("s11a0;s11a1;s99a4").down(), 7);
    // 0 and 1 stand until 2 comes
    Due.due("2", Due.told("s11a0;s11a1;s99b4").down(), 4);
  }
}
