/** Promise 10, at: its boundary cases, and those of LOAD, TIRED, FALLING and lying. */
final class Promise10AtTest {
  public static void main(String[] args) {
    notThereYet();
    thereDoesNotStand();
    liesInThatMomentAndTheNextTwo();
    loadsOfEachPlace();
    whatOneBoreInItThoughOneFell();
    theLoadBy8Cut();
    moreTiredThanFourTimesTheStrength();
    moreThan16TimesTheStrength();
    allAtOnceAndAllOnThem();
    whoFallsIsNotTiredAnyMore();
    howOftenByThen();
    momentsAreBad();
    acrobatsAreBad();
    whatsAreBad();
    Due.end();
  }

  private static void notThereYet() {
    Due.sentence("10: 0 not there yet; the MOMENT from which on one is there");
    for (int m = 0; m < 24; m++) {
      HumanPyramid x = Due.told("t56" + (char) ('a' + m) + "0");
      for (int k = 0; k < 24; k++) {
        Due.due("comes in " + m + ": at(" + k + ", 0, 0)", x.at(k, 0, 0), k < m ? 0 : 2);
        Due.due("comes in " + m + ": at(" + k + ", 0, 2)", x.at(k, 0, 2), k < m ? 0 : k - m + 1);
      }
    }
  }

  private static void thereDoesNotStand() {
    Due.sentence("10: 1 there, does not stand");
    HumanPyramid x = Due.told("s55d4;s55a0");
    Due.due("at(2, 0, 0)", x.at(2, 0, 0), 0);
    for (int m = 3; m < 24; m++) {
      Due.due("at(" + m + ", 0, 0)", x.at(m, 0, 0), 1);
      Due.due("at(" + m + ", 0, 1)", x.at(m, 0, 1), 0);
      Due.due("at(" + m + ", 0, 2)", x.at(m, 0, 2), 0);
    }
  }

  private static void liesInThatMomentAndTheNextTwo() {
    Due.sentence("10: 3 lies: one who FELL lies in that MOMENT and the next two");
    for (int m = 1; m < 24; m++) {
      HumanPyramid x = Due.told("s55a0");
      x.event(0, m, 0);
      for (int k = 0; k < 24; k++) {
        Due.due("falls in " + m + ": at(" + k + ", 0, 0)", x.at(k, 0, 0), k >= m && k <= m + 2 ? 3 : 2);
      }
    }
    // who lay and cannot climb is there and does not stand: below 4 one lies longer, having FALLEN a MOMENT later
    HumanPyramid y = Due.told("c19a0;c19a1;c19a4");
    y.event(0, 5, 2);
    y.event(0, 6, 0);
    int[] want = {3, 3, 3, 1, 2};
    for (int k = 0; k < want.length; k++) {
      Due.due("at(" + (5 + k) + ", 2, 0)", y.at(5 + k, 2, 0), want[k]);
    }
    Due.due("at(8, 0, 0)", y.at(8, 0, 0), 3);
    Due.due("at(9, 0, 0)", y.at(9, 0, 0), 2);
  }

  private static void loadsOfEachPlace() {
    Due.sentence("10: the LOAD, in eighths: of everybody on one half of (eight times the WEIGHT and the LOAD)");
    HumanPyramid x = Due.told(State.TEN);
    int[] ones = {7, 17, 17, 7, 6, 12, 6, 4, 4, 0};
    HumanPyramid y = Due.told("s99a0;s99a1;s99a2;s99a3;s99a4;s99a5;s99a6;s99a7;s99a8;s99a9");
    for (int p = 0; p < 10; p++) {
      Due.due("all of WEIGHT 1: at(0, " + p + ", 1)", x.at(0, p, 1), ones[p]);
      Due.due("all of WEIGHT 9: at(0, " + p + ", 1)", y.at(0, p, 1), 9 * ones[p]);
    }
    // one of 9 alone at each PLACE, those of 1 elsewhere: 8 more in itself, by halves on those below
    int[][] more = {
        {}, {}, {}, {},
        {32, 32, 0, 0, 0, 0, 0, 0, 0, 0}, {0, 32, 32, 0, 0, 0, 0, 0, 0, 0}, {0, 0, 32, 32, 0, 0, 0, 0, 0, 0},
        {16, 32, 16, 0, 32, 32, 0, 0, 0, 0}, {0, 16, 32, 16, 0, 32, 32, 0, 0, 0},
        {8, 24, 24, 8, 16, 32, 16, 32, 32, 0}};
    for (int heavy = 0; heavy < 10; heavy++) {
      HumanPyramid z = Due.told(State.ten("c99a" + heavy));
      for (int p = 0; p < 10; p++) {
        int want = ones[p] + (heavy < 4 ? 0 : more[heavy][p]);
        Due.due("9 at " + heavy + ": at(0, " + p + ", 1)", z.at(0, p, 1), want);
      }
    }
  }

  private static void whatOneBoreInItThoughOneFell() {
    Due.sentence("10: the LOAD one bore in it (0: did not)");
    HumanPyramid x = Due.told("s11a0;s19a1;s51a4");
    Due.due("FELL by it: at(0, 0, 1)", x.at(0, 0, 1), 20);
    Due.due("stands: at(0, 1, 1)", x.at(0, 1, 1), 20);
    Due.due("lies: at(1, 0, 1)", x.at(1, 0, 1), 0);
    Due.due("nobody on one: at(1, 1, 1)", x.at(1, 1, 1), 0);
    HumanPyramid y = Due.told("c19a0;c19a1;c19a4");
    y.event(0, 5, 0);
    Due.due("at(4, 1, 1)", y.at(4, 1, 1), 4);
    Due.due("FELL by an EVENT: at(5, 0, 1)", y.at(5, 0, 1), 0);
    Due.due("who was on one FELL: at(5, 1, 1)", y.at(5, 1, 1), 0);
  }

  /** Of the one at PLACE 0 in a whole pyramid: 4 times WEIGHT 4, twice WEIGHT 7, WEIGHT 9 of the one on top. */
  private static void theLoadBy8Cut() {
    Due.sentence("10: TIRED by the LOAD by 8, cut; 1 more than that; 1 less, 0 at least");
    tiredBy(7, 1, 1, 1, 0, 1, 0);
    tiredBy(8, 1, 1, 2, 1, 2, 0);
    tiredBy(15, 1, 1, 9, 1, 2, 0);
    tiredBy(16, 1, 2, 8, 2, 3, 1);
    tiredBy(23, 1, 5, 9, 2, 3, 1);
    tiredBy(24, 2, 4, 8, 3, 4, 2);
    tiredBy(63, 9, 9, 9, 7, 8, 6);
    int[] alone = {0, 1, 0};
    for (int sort = 0; sort < 3; sort++) {
      HumanPyramid x = Due.told("stc".charAt(sort) + "59a0");
      Due.due("of nobody on one: at(0, 0, 2)", x.at(0, 0, 2), alone[sort]);
      Due.due("of nobody on one: at(5, 0, 2)", x.at(5, 0, 2), 6 * alone[sort]);
    }
  }

  private static void tiredBy(int load, int weight4, int weight7, int weight9, int... bySort) {
    for (int sort = 0; sort < 3; sort++) {
      String one = "stc".charAt(sort) + "19a0";
      HumanPyramid x = Due.told(State.ten(one, "c" + weight4 + "9a4", "c" + weight7 + "9a7", "c" + weight9 + "9a9"));
      Due.due(one + " under " + load + ": at(0, 0, 1)", x.at(0, 0, 1), load);
      Due.due(one + " under " + load + ": at(0, 0, 2)", x.at(0, 0, 2), bySort[sort]);
    }
  }

  private static void moreTiredThanFourTimesTheStrength() {
    Due.sentence("10: FALL who are more TIRED than four times their STRENGTH");
    // a trembling one alone: by 1 in each MOMENT
    for (int s = 1; s <= 9; s++) {
      HumanPyramid x = Due.told("t5" + s + "a0");
      int last = Math.min(23, 4 * s - 1);
      Due.due("of " + s + ": at(" + last + ", 0, 2)", x.at(last, 0, 2), last + 1);
      Due.due("of " + s + ": at(" + last + ", 0, 0)", x.at(last, 0, 0), 2);
      if (4 * s < 24) {
        Due.due("of " + s + ": at(" + 4 * s + ", 0, 0)", x.at(4 * s, 0, 0), 3);
        Due.due("of " + s + ": at(" + 4 * s + ", 0, 2)", x.at(4 * s, 0, 2), 0);
      } else {
        Due.due("of " + s + ": sum(1)", x.sum(1), 0);
      }
    }
  }

  /** Of the one at PLACE 1 in a whole pyramid: 4 times WEIGHTS 4, 5 and 7, twice WEIGHT 8, 3 times WEIGHT 9. */
  private static void moreThan16TimesTheStrength() {
    Due.sentence("10: FALL whose LOAD is more than 16 times their STRENGTH");
    // 4 WEIGHT 4 and 4 WEIGHT 5 are 4 (w4 + w5): a pyramid without a top
    for (int s = 1; s <= 4; s++) {
      int half = 2 * s;
      String below = "c19a0;s1" + s + "a1;c19a2;c" + half + "9a4;c" + half + "9a5";
      HumanPyramid x = Due.told(below);
      Due.due("of " + s + ": at(0, 1, 1)", x.at(0, 1, 1), 16 * s);
      Due.due("of " + s + ": at(0, 1, 0)", x.at(0, 1, 0), 2);
      Due.due("of " + s + ": at(1, 1, 2)", x.at(1, 1, 2), 4 * s);
      Due.due("of " + s + ": at(1, 1, 0)", x.at(1, 1, 0), 2);
      Due.due("of " + s + ", more TIRED: at(2, 1, 0)", x.at(2, 1, 0), 3);
    }
    // to an eighth, of the least and of the greatest STRENGTH
    bears("s11a1", 17, false, 1, 1, 1, 1, 1);
    bears("s12a1", 17, true, 1, 1, 1, 1, 1);
    bears("s19a1", 144, true, 9, 9, 9, 9, 6);
    bears("s19a1", 145, false, 7, 9, 9, 9, 9);
    bears("c19a1", 145, false, 7, 9, 9, 9, 9);
    bears("s19a1", 153, false, 9, 9, 9, 9, 9);
  }

  private static void bears(String one, int load, boolean stands, int w4, int w5, int w7, int w8, int w9) {
    HumanPyramid x = Due.told(State.ten(one, "c" + w4 + "9a4", "c" + w5 + "9a5", "c" + w7 + "9a7", "c" + w8 + "9a8",
        "c" + w9 + "9a9"));
    Due.due(one + " under " + load + ": at(0, 1, 1)", x.at(0, 1, 1), load);
    Due.due(one + " under " + load + ": at(0, 1, 0)", x.at(0, 1, 0), stands ? 2 : 3);
  }

  private static void allAtOnceAndAllOnThem() {
    Due.sentence("10: all FALL at once, and all on them, likewise");
    // 1 gives way; 4, 5, 7, 8 and 9 with it, each once; 0, 2, 3 and 6 stay
    HumanPyramid x = Due.told(State.ten("s11a1"));
    int[] want = {2, 3, 2, 2, 3, 3, 2, 3, 3, 3};
    for (int p = 0; p < 10; p++) {
      Due.due("at(0, " + p + ", 0)", x.at(0, p, 0), want[p]);
      Due.due("at(0, " + p + ", 3)", x.at(0, p, 3), want[p] == 3 ? 1 : 0);
    }
    // two side by side, each too weak: those on both of them FALL once
    HumanPyramid y = Due.told(State.ten("s11a1", "s11a2"));
    int[] both = {2, 3, 3, 2, 3, 3, 3, 3, 3, 3};
    for (int p = 0; p < 10; p++) {
      Due.due("at(0, " + p + ", 0)", y.at(0, p, 0), both[p]);
      Due.due("at(0, " + p + ", 3)", y.at(0, p, 3), both[p] == 3 ? 1 : 0);
    }
    // one on top of whom nobody is FALLS alone
    HumanPyramid z = Due.told(State.ten("t11a9"));
    Due.due("at(4, 9, 0)", z.at(4, 9, 0), 3);
    Due.due("tower(4, 0)", z.tower(4, 0), 9);
  }

  private static void whoFallsIsNotTiredAnyMore() {
    Due.sentence("10: who FALLS is not TIRED any more (0)");
    HumanPyramid x = Due.told("t55a0;t55a1;t55a4");
    x.event(0, 2, 0);
    Due.due("at(1, 0, 2)", x.at(1, 0, 2), 2 * (20 / 8 + 1));
    Due.due("at(1, 2, 2)", x.at(1, 2, 2), 2);
    Due.due("who SNEEZED: at(2, 0, 2)", x.at(2, 0, 2), 0);
    Due.due("who stood there: at(2, 2, 2)", x.at(2, 2, 2), 0);
    Due.due("who stays: at(2, 1, 2)", x.at(2, 1, 2), 7);
    Due.due("at(5, 0, 2)", x.at(5, 0, 2), 3);
    Due.due("at(5, 2, 2)", x.at(5, 2, 2), 1);
  }

  private static void howOftenByThen() {
    Due.sentence("10: how often one FELL by then");
    HumanPyramid x = Due.told("s55a0");
    for (int i = 0; i < 8; i++) {
      x.event(0, 1 + 3 * i, 0);
    }
    // one climbs in 4, 7 .. again, but the EVENTS come first: every second one meets one who lies
    int[] fallsIn = {1, 7, 13, 19};
    int fell = 0;
    for (int m = 0; m < 24; m++) {
      if (fell < 4 && fallsIn[fell] == m) {
        fell++;
      }
      Due.due("at(" + m + ", 0, 3)", x.at(m, 0, 3), fell);
    }
    HumanPyramid y = Due.told("s55a0");
    for (int i = 0; i < 6; i++) {
      y.event(0, 1 + 4 * i, 0);
    }
    Due.due("at(23, 0, 3)", y.at(23, 0, 3), 6);
  }

  private static void momentsAreBad() {
    Due.sentence("10: MOMENTS are 0 to 23; BAD");
    HumanPyramid x = Due.told("s55a0");
    Due.due("at(0, 0, 0)", x.at(0, 0, 0), 2);
    Due.due("at(23, 0, 0)", x.at(23, 0, 0), 2);
    for (int b : new int[] {-1, 24, Refused.LEAST, Refused.GREATEST}) {
      Refused.bad("at(" + b + ", 0, 0)", y -> y.at(b, 0, 0));
    }
  }

  private static void acrobatsAreBad() {
    Due.sentence("10: BAD: no such ACROBAT");
    for (int b : new int[] {-1, 10, Refused.LEAST, Refused.GREATEST}) {
      Refused.bad("at(0, " + b + ", 0)", y -> y.at(0, b, 0));
    }
    for (int n = 0; n <= 10; n++) {
      HumanPyramid x = Due.told(n == 0 ? "" : State.TEN.substring(0, 6 * n - 1));
      for (int a = 0; a <= 10; a++) {
        Due.due("at(23, " + a + ", 3) of " + n, x.at(23, a, 3), a < n ? 0 : -2);
      }
    }
    Due.due("with a FAULT", Due.told("s55a0;").at(0, 0, 0), -2);
  }

  private static void whatsAreBad() {
    Due.sentence("10: what = 0 to 3; BAD");
    for (int b : new int[] {-1, 4, Refused.LEAST, Refused.GREATEST}) {
      Refused.bad("at(0, 0, " + b + ")", y -> y.at(0, 0, b));
    }
  }
}
