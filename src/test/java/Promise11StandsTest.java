/** Promise 11, stands: its boundary cases, and those of climbing. */
final class Promise11StandsTest {
  private static final int[][] BELOW = {{}, {}, {}, {}, {0, 1}, {1, 2}, {2, 3}, {4, 5}, {5, 6}, {7, 8}};

  public static void main(String[] args) {
    everyPlaceAndMoment();
    onTheGroundInAnyCase();
    bothPlacesBelowAreTaken();
    byNumbers();
    noneThere();
    whoIsThere();
    momentsAreBad();
    placesAreBad();
    Due.end();
  }

  private static void everyPlaceAndMoment() {
    Due.sentence("11: who stands there, PLACES 0 to 9, MOMENTS 0 to 23");
    HumanPyramid x = Due.told(State.TEN);
    for (int m = 0; m < 24; m++) {
      for (int p = 0; p < 10; p++) {
        Due.due("stands(" + m + ", " + p + ")", x.stands(m, p), p);
      }
    }
  }

  private static void onTheGroundInAnyCase() {
    Due.sentence("11: on the ground in any case");
    for (int p = 0; p < 10; p++) {
      HumanPyramid x = Due.told("s55a" + p);
      Due.due("alone at " + p + ": stands(0, " + p + ")", x.stands(0, p), p < 4 ? 0 : -1);
      Due.due("alone at " + p + ": stands(23, " + p + ")", x.stands(23, p), p < 4 ? 0 : -1);
    }
  }

  private static void bothPlacesBelowAreTaken() {
    Due.sentence("11: one climbs, if both PLACES on which one's own is are taken");
    for (int p = 4; p < 10; p++) {
      for (int gone = 0; gone < p; gone++) {
        HumanPyramid x = Due.told(State.TEN);
        // whoever is at this PLACE is HELD in MOMENT 0, and all that it bears are kept off with it
        x.event(2, 0, gone);
        Due.due(gone + " held: stands(0, " + p + ")", x.stands(0, p), isOn(p, gone) ? -1 : p);
        Due.due(gone + " held: stands(1, " + p + ")", x.stands(1, p), p);
      }
    }
  }

  private static boolean isOn(int p, int q) {
    for (int below : BELOW[p]) {
      if (below == q || isOn(below, q)) {
        return true;
      }
    }
    return false;
  }

  private static void byNumbers() {
    Due.sentence("11: climb, by numbers");
    // whoever comes ahead of those below waits a MOMENT
    for (int p = 4; p < 10; p++) {
      StringBuilder text = new StringBuilder("c19a" + p);
      for (int q = 0; q < 10; q++) {
        if (q != p) {
          text.append(";c19a").append(q);
        }
      }
      HumanPyramid x = Due.told(text.toString());
      Due.due(p + " first: stands(0, " + p + ")", x.stands(0, p), -1);
      Due.due(p + " first: stands(1, " + p + ")", x.stands(1, p), 0);
      Due.due(p + " first: stands(0, 0)", x.stands(0, 0), 1);
      Due.due(p + " first: stands(0, 9)", x.stands(0, 9), -1);
    }
    // upside down each row waits for the one below it
    HumanPyramid y = Due.told("c19a9;c19a8;c19a7;c19a6;c19a5;c19a4;c19a3;c19a2;c19a1;c19a0");
    int[] row = {0, 0, 0, 0, 1, 1, 1, 2, 2, 3};
    for (int m = 0; m < 5; m++) {
      for (int p = 0; p < 10; p++) {
        Due.due("stands(" + m + ", " + p + ")", y.stands(m, p), m >= row[p] ? 9 - p : -1);
      }
    }
    // between those below: behind the one, ahead of the other
    HumanPyramid z = Due.told("c19a0;c19a4;c19a1");
    Due.due("stands(0, 4)", z.stands(0, 4), -1);
    Due.due("stands(1, 4)", z.stands(1, 4), 1);
  }

  private static void noneThere() {
    Due.sentence("11: NONE");
    HumanPyramid x = Due.told("s55d3;s55a9");
    for (int m = 0; m < 24; m++) {
      for (int p = 0; p < 10; p++) {
        Due.due("stands(" + m + ", " + p + ")", x.stands(m, p), p == 3 && m >= 3 ? 0 : -1);
      }
    }
    HumanPyramid y = Due.told("t51a0");
    Due.due("who FELL in it: stands(4, 0)", y.stands(4, 0), -1);
    Due.due("who lies: stands(6, 0)", y.stands(6, 0), -1);
    Due.due("climbs again: stands(7, 0)", y.stands(7, 0), 0);
    Due.due("of nobody: stands(23, 9)", new HumanPyramid().stands(23, 9), -1);
    Due.due("with a FAULT: stands(23, 0)", Due.told("s55a0;").stands(23, 0), -1);
  }

  private static void whoIsThere() {
    Due.sentence("11: who stands there");
    HumanPyramid x = Due.told("s55a3;s55a2;s55a1;s55a0");
    for (int p = 0; p < 4; p++) {
      Due.due("stands(0, " + p + ")", x.stands(0, p), 3 - p);
    }
  }

  private static void momentsAreBad() {
    Due.sentence("11: MOMENTS are 0 to 23; BAD");
    for (int b : new int[] {-1, 24, Refused.LEAST, Refused.GREATEST}) {
      Refused.bad("stands(" + b + ", 0)", x -> x.stands(b, 0));
    }
  }

  private static void placesAreBad() {
    Due.sentence("11: PLACES are 0 to 9; BAD");
    for (int b : new int[] {-1, 10, Refused.LEAST, Refused.GREATEST}) {
      Refused.bad("stands(0, " + b + ")", x -> x.stands(0, b));
    }
  }
}
