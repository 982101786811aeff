/** Promise 12, tower: its boundary cases. */
final class Promise12TowerTest {
  public static void main(String[] args) {
    noneToTen();
    noRowToFour();
    theFirstAndTheLastMoment();
    othersAreBad();
    Due.end();
  }

  private static void noneToTen() {
    Due.sentence("12: how many stand, 0 to 10");
    for (int n = 0; n <= 10; n++) {
      HumanPyramid x = Due.told(n == 0 ? "" : State.TEN.substring(0, 6 * n - 1));
      Due.due("tower(0, 0) of " + n, x.tower(0, 0), n);
      Due.due("tower(23, 0) of " + n, x.tower(23, 0), n);
    }
  }

  private static void noRowToFour() {
    Due.sentence("12: in how many of the four rows anybody stands");
    int[] high = {0, 1, 1, 1, 1, 2, 2, 2, 3, 3, 4};
    for (int n = 0; n <= 10; n++) {
      HumanPyramid x = Due.told(n == 0 ? "" : State.TEN.substring(0, 6 * n - 1));
      Due.due("tower(0, 1) of " + n, x.tower(0, 1), high[n]);
    }
    // by whoever is alone in a row
    Due.due("3 alone", Due.told("s11a3").tower(0, 1), 1);
    Due.due("6 in its row", Due.told("c19a2;c19a3;c19a6").tower(0, 1), 2);
    Due.due("8 in its row", Due.told("c19a1;c19a2;c19a3;c19a5;c19a6;c19a8").tower(0, 1), 3);
    Due.due("7 in its row", Due.told("c19a0;c19a1;c19a2;c19a4;c19a5;c19a7").tower(0, 1), 3);
    Due.due("nobody can climb", Due.told("s11a4;s11a7;s11a9").tower(0, 1), 0);
    // of 0 and 3 alone side by side nobody is on top
    Due.due("0 and 3", Due.told("s11a0;s11a3").tower(0, 1), 1);
  }

  private static void theFirstAndTheLastMoment() {
    Due.sentence("12: behind a MOMENT, 0 to 23");
    HumanPyramid x = Due.told("c19a0;c19a1;c19x4;s11b2");
    int[] many = {2, 3, 3, 4};
    int[] high = {1, 1, 1, 2};
    int[] moments = {0, 1, 22, 23};
    for (int i = 0; i < 4; i++) {
      Due.due("tower(" + moments[i] + ", 0)", x.tower(moments[i], 0), many[i]);
      Due.due("tower(" + moments[i] + ", 1)", x.tower(moments[i], 1), high[i]);
    }
  }

  private static void othersAreBad() {
    Due.sentence("12: BAD");
    for (int b : new int[] {-1, 24, Refused.LEAST, Refused.GREATEST}) {
      Refused.bad("tower(" + b + ", 0)", x -> x.tower(b, 0));
      Refused.bad("tower(" + b + ", 1)", x -> x.tower(b, 1));
    }
    for (int b : new int[] {-1, 2, Refused.LEAST, Refused.GREATEST}) {
      Refused.bad("tower(0, " + b + ")", x -> x.tower(0, b));
    }
  }
}
