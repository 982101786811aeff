/** Promise 6, acrobat: its boundary cases. */
final class Promise06AcrobatTest {
  public static void main(String[] args) {
    sorts();
    figures();
    moments();
    places();
    theFirstAndTheTenth();
    othersAreBad();
    noSuchAcrobat();
    Due.end();
  }

  private static void acrobat(String one, int... want) {
    HumanPyramid x = Due.told(one);
    for (int what = 0; what < 5; what++) {
      Due.due("acrobat(0, " + what + ") of " + one, x.acrobat(0, what), want[what]);
    }
  }

  private static void sorts() {
    Due.sentence("6: the sort: 0 s, 1 t, 2 c");
    acrobat("s11a0", 0, 1, 1, 0, 0);
    acrobat("t11a0", 1, 1, 1, 0, 0);
    acrobat("c11a0", 2, 1, 1, 0, 0);
  }

  private static void figures() {
    Due.sentence("6: WEIGHT and STRENGTH, 1 to 9");
    for (int w = 1; w <= 9; w++) {
      for (int s = 1; s <= 9; s++) {
        acrobat("t" + w + s + "m4", 1, w, s, 12, 4);
      }
    }
  }

  private static void moments() {
    Due.sentence("6: the MOMENT, a to x: 0 to 23");
    for (int m = 0; m < 24; m++) {
      acrobat("c89" + (char) ('a' + m) + "7", 2, 8, 9, m, 7);
    }
  }

  private static void places() {
    Due.sentence("6: the PLACE, 0 to 9");
    for (int p = 0; p < 10; p++) {
      acrobat("s98x" + p, 0, 9, 8, 23, p);
    }
  }

  private static void theFirstAndTheTenth() {
    Due.sentence("6: ACROBATS, 10 at most, 0 on");
    HumanPyramid x = Due.told("s12a9;t23b8;c34c7;s45d6;t56e5;c67f4;s78g3;t89h2;c91i1;s21x0");
    int[][] want = {{0, 1, 2, 0, 9}, {1, 2, 3, 1, 8}, {2, 3, 4, 2, 7}, {0, 4, 5, 3, 6}, {1, 5, 6, 4, 5},
        {2, 6, 7, 5, 4}, {0, 7, 8, 6, 3}, {1, 8, 9, 7, 2}, {2, 9, 1, 8, 1}, {0, 2, 1, 23, 0}};
    for (int a = 0; a < 10; a++) {
      for (int what = 0; what < 5; what++) {
        Due.due("acrobat(" + a + ", " + what + ")", x.acrobat(a, what), want[a][what]);
      }
    }
  }

  private static void othersAreBad() {
    Due.sentence("6: BAD");
    for (int b : new int[] {-1, 10, Refused.LEAST, Refused.GREATEST}) {
      Refused.bad("acrobat(" + b + ", 0)", x -> x.acrobat(b, 0));
    }
    for (int b : new int[] {-1, 5, Refused.LEAST, Refused.GREATEST}) {
      Refused.bad("acrobat(0, " + b + ")", x -> x.acrobat(0, b));
    }
  }

  private static void noSuchAcrobat() {
    Due.sentence("6: BAD: no such thing");
    for (int n = 0; n <= 10; n++) {
      HumanPyramid x = Due.told(n == 0 ? "" : State.TEN.substring(0, 6 * n - 1));
      for (int a = 0; a <= 10; a++) {
        Due.due("acrobat(" + a + ", 4) of " + n, x.acrobat(a, 4), a < n ? a : -2);
      }
    }
    Due.due("acrobat(0, 0) with a FAULT", Due.told("s11a0;").acrobat(0, 0), -2);
    Due.due("acrobat(0, 5) of nobody", new HumanPyramid().acrobat(0, 5), -2);
  }
}
