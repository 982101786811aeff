/** Promises 27 and 28: chance, years. */
final class ChanceTest {
  private static final long BAD = Long.MIN_VALUE + 2;

  public static void main(String[] args) {
    chances();
    exactly();
    refused();
    years();
    Due.end();
  }

  private static void chance(HumanPyramid x, int c, int moment, long above, long below) {
    Due.due("chance(" + c + ", " + moment + ", 0)", x.chance(c, moment, 0), above);
    Due.due("chance(" + c + ", " + moment + ", 1)", x.chance(c, moment, 1), below);
  }

  private static void chances() {
    HumanPyramid x = Due.told("s55a0");
    chance(x, 4, 23, 0, 1);
    x.event(0, 3, 0);
    chance(x, 4, 2, 0, 1);
    chance(x, 4, 3, 1, 4);
    chance(x, 5, 3, 5, 16);
    chance(x, 0, 3, 0, 1);
    chance(x, 16, 3, 1, 1);
    x.event(0, 5, 0);
    chance(x, 4, 4, 1, 4);
    chance(x, 4, 5, 7, 16);
    chance(x, 8, 5, 3, 4);
    chance(x, 16, 23, 1, 1);
    x.event(1, 5, 0);
    chance(x, 4, 23, 7, 16);
    x.event(0, 0, 0);
    chance(x, 4, 23, 7, 16);
    x.back();
    x.back();
    x.back();
    chance(x, 4, 23, 1, 4);
    // who falls in any case
    chance(Due.told("s11a0;s11a1;s99a4"), 0, 0, 1, 1);
    chance(Due.told("t51a0"), 7, 3, 0, 1);
    chance(Due.told("t51a0"), 7, 4, 1, 1);
    // an event that keeps one from falling: held back, the third one comes too late
    HumanPyramid y = Due.told("s11a0;s11a1;s99x4");
    y.event(2, 23, 2);
    chance(y, 5, 23, 11, 16);
    chance(y, 5, 22, 0, 1);
  }

  private static void exactly() {
    HumanPyramid x = Due.told("s55a0");
    for (int m = 1; m <= 8; m++) {
      Due.due("event", x.event(0, m, 0), m);
    }
    // 1 - (15/16)^8, which has no common factor; 1 - (7/8)^8 and 1 - (1/2)^8 have
    chance(x, 1, 23, 1732076671L, 4294967296L);
    chance(x, 1, 1, 1, 16);
    chance(x, 2, 23, 16777216L - 5764801L, 16777216L);
    chance(x, 8, 23, 255, 256);
    chance(x, 15, 23, 4294967295L, 4294967296L);
    chance(x, 16, 23, 1, 1);
  }

  private static void refused() {
    HumanPyramid x = Due.told("s55a0");
    int[][] bad = {{-1, 0, 0}, {17, 0, 0}, {0, -1, 0}, {0, 24, 0}, {0, 0, -1}, {0, 0, 2}};
    for (int[] b : bad) {
      Due.due("chance(" + b[0] + ", " + b[1] + ", " + b[2] + ")", x.chance(b[0], b[1], b[2]), BAD);
    }
    Due.due("years(1, -1, 0)", x.years(1, -1, 0), -2);
    Due.due("years(1, 9, 0)", x.years(1, 9, 0), -2);
    Due.due("years(1, 0, -1)", x.years(1, 0, -1), -2);
    Due.due("years(1, 0, 2)", x.years(1, 0, 2), -2);
    Due.due("years of nobody, refused all the same", new HumanPyramid().years(1, 9, 0), -2);
  }

  private static void years() {
    HumanPyramid x = Due.told("s55a0");
    // SEED 0: LOTS 0 (of 3: a sneeze), 21468 (of 24: moment 12), 9988 (of 1: 0)
    Due.due("years(0, 0, 0)", x.years(0, 0, 0), 24);
    Due.due("years(0, 0, 1)", x.years(0, 0, 1), 0);
    Due.due("years(0, 1, 0)", x.years(0, 1, 0), 21);
    Due.due("years(0, 1, 1)", x.years(0, 1, 1), 1);
    // in place of those told, which stay told
    Due.due("event", x.event(0, 3, 0), 1);
    Due.due("years(0, 1, 1)", x.years(0, 1, 1), 1);
    Due.due("years(0, 0, 1)", x.years(0, 0, 1), 0);
    Due.due("count(2)", x.count(2), 1);
    Due.due("sum(1)", x.sum(1), 1);
    Due.due("any seed", x.years(Integer.MIN_VALUE, 0, 0) + x.years(Integer.MAX_VALUE, 0, 0), 48);
    Due.due("of nobody", new HumanPyramid().years(5, 8, 0), 0);
    Due.due("of nobody", new HumanPyramid().years(5, 8, 1), 0);
  }
}
