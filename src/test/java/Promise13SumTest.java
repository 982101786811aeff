/** Promise 13, sum: its boundary cases. */
final class Promise13SumTest {
  public static void main(String[] args) {
    standing();
    falls();
    othersAreBad();
    Due.end();
  }

  private static void standing() {
    Due.sentence("13: STANDING: how many stand, behind all MOMENTS together");
    Due.due("of nobody", new HumanPyramid().sum(0), 0);
    Due.due("of ten all the time", Due.told(State.TEN).sum(0), 240);
    for (int m = 0; m < 24; m++) {
      Due.due("from " + m + " on", Due.told("s11" + (char) ('a' + m) + "0").sum(0), 24 - m);
    }
    Due.due("of one who can never climb", Due.told("s11a4").sum(0), 0);
    // who FALLS in it does not stand behind it
    Due.due("FALLS in 4, 11, 18, lies two more", Due.told("t51a0").sum(0), 24 - 9);
    Due.due("with a FAULT", Due.told("s11a0;").sum(0), 0);
  }

  private static void falls() {
    Due.sentence("13: FALLS of all");
    Due.due("of nobody", new HumanPyramid().sum(1), 0);
    Due.due("of none", Due.told(State.TEN).sum(1), 0);
    HumanPyramid x = Due.told(State.TEN);
    x.event(0, 22, 1);
    Due.due("each who FALLS counts", x.sum(1), 6);
    x.event(0, 23, 0);
    Due.due("in the last MOMENT too", x.sum(1), 7);
    // crushed in 0, 3, 6 .. 21: three each time
    Due.due("as often as can be", Due.told("s11a0;s11a1;s99a4").sum(1), 24);
    Due.due("as often as can be", Due.told("s11a0;s11a1;s99a4").sum(0), 0);
    // ten may FALL in 0, 3, 6 .. 21
    HumanPyramid y = Due.told("s91a0;s91a1;s91a2;s91a3;s91a4;s91a5;s91a6;s91a7;s91a8;s91a9");
    Due.due("ten, again and again", y.sum(1), 80);
    Due.due("ten, again and again", y.sum(0), 0);
  }

  private static void othersAreBad() {
    Due.sentence("13: BAD");
    for (int b : new int[] {-1, 2, Refused.LEAST, Refused.GREATEST}) {
      Refused.bad("sum(" + b + ")", x -> x.sum(b));
    }
  }
}
