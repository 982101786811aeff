/** Promise 27, chance: its boundary cases. */
final class Promise27ChanceTest {
  private static final long BAD = Long.MIN_VALUE + 2;

  public static void main(String[] args) {
    none();
    one();
    inLowestTerms();
    byAMomentThatOneToo();
    byItself();
    eightEvents();
    ofWhatIsToldAtTheTime();
    othersAreBad();
    Due.end();
  }

  private static void chance(HumanPyramid x, int c, int moment, long above, long below) {
    Due.due("chance(" + c + ", " + moment + ", 0)", x.chance(c, moment, 0), above);
    Due.due("chance(" + c + ", " + moment + ", 1)", x.chance(c, moment, 1), below);
  }

  private static void none() {
    Due.sentence("27: 0 by 1");
    for (int c = 0; c <= 16; c++) {
      chance(new HumanPyramid(), c, 23, 0, 1);
      chance(Due.told("s55a0"), c, 23, 0, 1);
      HumanPyramid x = Due.told("s55a0");
      x.event(1, 5, 0);
      x.event(0, 0, 0);
      x.event(2, 3, 0);
      chance(x, c, 23, 0, 1);
      HumanPyramid y = Due.told("s55a0;");
      y.event(0, 5, 0);
      chance(y, c, 23, 0, 1);
    }
  }

  private static void one() {
    Due.sentence("27: 1 by 1: who FALLS in any case");
    for (int c = 0; c <= 16; c++) {
      chance(Due.told("s11a0;s11a1;s99a4"), c, 0, 1, 1);
      HumanPyramid x = Due.told("t51a0");
      x.event(0, 2, 0);
      chance(x, c, 4, 1, 1);
    }
  }

  private static void inLowestTerms() {
    Due.sentence("27: by c sixteenths (0 to 16), in lowest terms");
    int[] above = {0, 1, 1, 3, 1, 5, 3, 7, 1, 9, 5, 11, 3, 13, 7, 15, 1};
    int[] below = {1, 16, 8, 16, 4, 16, 8, 16, 2, 16, 8, 16, 4, 16, 8, 16, 1};
    for (int c = 0; c <= 16; c++) {
      HumanPyramid x = Due.told("s55a0");
      x.event(0, 5, 0);
      chance(x, c, 5, above[c], below[c]);
      // one more that harms nobody is told in the same terms
      x.event(1, 5, 0);
      chance(x, c, 5, above[c], below[c]);
    }
  }

  private static void byAMomentThatOneToo() {
    Due.sentence("27: has FALLEN by a MOMENT (that one too), 0 to 23");
    for (int m = 1; m < 24; m++) {
      HumanPyramid x = Due.told("s55a0");
      x.event(0, m, 0);
      for (int k = 0; k < 24; k++) {
        chance(x, 4, k, k < m ? 0 : 1, k < m ? 1 : 4);
      }
    }
    // who gives way in a MOMENT, too
    HumanPyramid y = Due.told("t51a0");
    chance(y, 4, 3, 0, 1);
    chance(y, 4, 4, 1, 1);
    HumanPyramid z = Due.told("s11a0;s11a1;s99x4");
    chance(z, 4, 22, 0, 1);
    chance(z, 4, 23, 1, 1);
  }

  private static void byItself() {
    Due.sentence("27: each of EVENTS is by itself");
    HumanPyramid x = Due.told("s55a0");
    x.event(0, 5, 0);
    x.event(0, 5, 0);
    chance(x, 8, 5, 3, 4);
    chance(x, 1, 5, 31, 256);
    // one who is HELD does not FALL: 1/4 of being HELD, 3/4 of FALLING
    HumanPyramid y = Due.told("s11a0;s11a1;s99x4");
    y.event(2, 23, 2);
    chance(y, 4, 23, 3, 4);
    chance(y, 0, 23, 1, 1);
    chance(y, 16, 23, 0, 1);
    // APPLAUSE saves one from FALLING in 20, by 5/16
    HumanPyramid z = Due.told("t55a0");
    z.event(1, 10, 0);
    chance(z, 5, 19, 0, 1);
    chance(z, 5, 20, 11, 16);
    chance(z, 5, 22, 11, 16);
    chance(z, 5, 23, 1, 1);
  }

  private static void eightEvents() {
    Due.sentence("27: of 8 EVENTS, exactly");
    HumanPyramid x = Due.told("s55a0");
    for (int m = 1; m <= 8; m++) {
      x.event(0, m, 0);
    }
    long all = 1L << 32;
    long power = 1;
    for (int i = 0; i < 8; i++) {
      power *= 15;
    }
    chance(x, 1, 23, all - power, all);
    chance(x, 15, 23, all - 1, all);
    chance(x, 0, 23, 0, 1);
    chance(x, 16, 23, 1, 1);
    // all eight must be: HELD back in every MOMENT in which one is there
    HumanPyramid y = Due.told("s11a0;s11a1;s99q4");
    for (int m = 16; m < 24; m++) {
      y.event(2, m, 2);
    }
    chance(y, 15, 23, all - power, all);
    chance(y, 1, 23, all - 1, all);
    chance(y, 15, 16, 1, 16);
  }

  private static void ofWhatIsToldAtTheTime() {
    Due.sentence("27: of the ACROBATS and EVENTS there are");
    HumanPyramid x = Due.told("s55a0");
    x.event(0, 5, 0);
    chance(x, 4, 23, 1, 4);
    x.event(0, 9, 0);
    chance(x, 4, 23, 7, 16);
    x.back();
    x.event(1, 9, 0);
    chance(x, 4, 23, 1, 4);
    x.undo();
    chance(x, 4, 23, 0, 1);
    x.type('3');
    chance(x, 4, 23, 1, 4);
    x.wipe();
    Due.typeAll(x, "t51a0");
    chance(x, 4, 23, 1, 1);
    Due.fill(x, 0, 0, 0, 2, 0);
    x.read(0);
    chance(x, 4, 2, 1, 4);
  }

  private static void othersAreBad() {
    Due.sentence("27: BAD, as the least long and 2 more");
    for (int b : new int[] {-1, 17, Refused.LEAST, Refused.GREATEST}) {
      Refused.everywhere("chance(" + b + ", 0, 0)", x -> x.chance(b, 0, 0), BAD);
    }
    for (int b : new int[] {-1, 24, Refused.LEAST, Refused.GREATEST}) {
      Refused.everywhere("chance(0, " + b + ", 0)", x -> x.chance(0, b, 0), BAD);
    }
    for (int b : new int[] {-1, 2, Refused.LEAST, Refused.GREATEST}) {
      Refused.everywhere("chance(0, 0, " + b + ")", x -> x.chance(0, 0, b), BAD);
    }
    Due.due("BAD", BAD, -9223372036854775806L);
  }
}
