/** Promises 10 to 17: at, stands, tower, sum, top, most, clumsy, down. */
final class MomentsTest {
  private static final String ALL = "c19a0;c19a1;c19a2;c19a3;c19a4;c19a5;c19a6;c19a7;c19a8;c19a9";
  private static final String UPSIDE_DOWN = "c19a9;c19a8;c19a7;c19a6;c19a5;c19a4;c19a3;c19a2;c19a1;c19a0";

  public static void main(String[] args) {
    alone();
    trembling();
    calm();
    steadyAndTooHeavy();
    loadsOfAll();
    loadsFromTheTop();
    byNumbers();
    inWhateverOrderTheyCome();
    neverUp();
    clumsyOnes();
    refused();
    Due.end();
  }

  private static void alone() {
    HumanPyramid x = Due.told("s55c0");
    Due.due("at(1, 0, 0)", x.at(1, 0, 0), 0);
    Due.due("stands(1, 0)", x.stands(1, 0), -1);
    Due.due("at(2, 0, 0)", x.at(2, 0, 0), 2);
    Due.due("stands(2, 0)", x.stands(2, 0), 0);
    Due.due("at(23, 0, 2)", x.at(23, 0, 2), 0);
    Due.due("sum(0)", x.sum(0), 22);
    Due.due("sum(1)", x.sum(1), 0);
    Due.due("top(0)", x.top(0), -1);
    Due.due("top(1)", x.top(1), 0);
    Due.due("most(0)", x.most(0), 1);
    Due.due("most(1)", x.most(1), 2);
    Due.due("clumsy()", x.clumsy(), -1);
    Due.due("down()", x.down(), 0);
    Due.due("tower(1, 0)", x.tower(1, 0), 0);
    Due.due("tower(1, 1)", x.tower(1, 1), 0);
    Due.due("tower(2, 0)", x.tower(2, 0), 1);
    Due.due("tower(2, 1)", x.tower(2, 1), 1);
  }

  /** TIRED by 1 each moment, beyond 4 in the fifth; lies in it and the next two. */
  private static void trembling() {
    HumanPyramid x = Due.told("t51a0");
    for (int m = 0; m < 24; m++) {
      int of = m % 7;
      Due.due("at(" + m + ", 0, 0)", x.at(m, 0, 0), of < 4 ? 2 : 3);
      Due.due("at(" + m + ", 0, 1)", x.at(m, 0, 1), 0);
      Due.due("at(" + m + ", 0, 2)", x.at(m, 0, 2), of < 4 ? of + 1 : 0);
      Due.due("at(" + m + ", 0, 3)", x.at(m, 0, 3), (m + 3) / 7);
    }
    Due.due("sum(0)", x.sum(0), 15);
    Due.due("sum(1)", x.sum(1), 3);
    Due.due("clumsy()", x.clumsy(), 0);
  }

  /** Each below bears 32 eighths, so is TIRED by 3 each moment, beyond 20 in the seventh. */
  private static void calm() {
    HumanPyramid x = Due.told("c95a0;c95a1;s81a4");
    for (int m = 0; m < 24; m++) {
      int of = m % 9;
      Due.due("at(" + m + ", 0, 1)", x.at(m, 0, 1), of < 7 ? 32 : 0);
      Due.due("at(" + m + ", 1, 2)", x.at(m, 1, 2), of < 6 ? 3 * (of + 1) : 0);
      Due.due("at(" + m + ", 2, 0)", x.at(m, 2, 0), of < 6 ? 2 : 3);
      Due.due("at(" + m + ", 2, 1)", x.at(m, 2, 1), 0);
      Due.due("tower(" + m + ", 0)", x.tower(m, 0), of < 6 ? 3 : 0);
      Due.due("tower(" + m + ", 1)", x.tower(m, 1), of < 6 ? 2 : 0);
    }
    Due.due("sum(0)", x.sum(0), 54);
    Due.due("sum(1)", x.sum(1), 6);
    // below 8 eighths a calm one does not get less TIRED
    HumanPyramid y = Due.told("c55a0;c55a1;s11a4");
    Due.due("at(9, 0, 1)", y.at(9, 0, 1), 4);
    Due.due("at(9, 0, 2)", y.at(9, 0, 2), 0);
  }

  private static void steadyAndTooHeavy() {
    // a LOAD of 16 is not more than 16 times 1; TIRED by 2 each moment: 4 is not more than 4, 6 is
    HumanPyramid x = Due.told("s11a0;s11a1;s41a4");
    Due.due("at(0, 0, 1)", x.at(0, 0, 1), 16);
    Due.due("at(1, 0, 0)", x.at(1, 0, 0), 2);
    Due.due("at(1, 0, 2)", x.at(1, 0, 2), 4);
    Due.due("at(2, 0, 0)", x.at(2, 0, 0), 3);
    // 20 is
    HumanPyramid y = Due.told("s11a0;s11a1;s51a4");
    Due.due("at(0, 1, 1)", y.at(0, 1, 1), 20);
    Due.due("at(0, 1, 0)", y.at(0, 1, 0), 3);
    Due.due("at(0, 2, 0)", y.at(0, 2, 0), 3);
    Due.due("at(0, 2, 3)", y.at(0, 2, 3), 1);
    // a weak one falls with who stands on one; the strong one beside stays, and bears nobody now
    HumanPyramid z = Due.told("s11a0;s19a1;s51a4");
    Due.due("at(0, 0, 0)", z.at(0, 0, 0), 3);
    Due.due("at(0, 1, 0)", z.at(0, 1, 0), 2);
    Due.due("at(0, 1, 2)", z.at(0, 1, 2), 2);
    Due.due("at(1, 1, 1)", z.at(1, 1, 1), 0);
    Due.due("at(1, 1, 2)", z.at(1, 1, 2), 2);
  }

  private static void loadsOfAll() {
    HumanPyramid x = Due.told(ALL);
    int[] loads = {7, 17, 17, 7, 6, 12, 6, 4, 4, 0};
    int[] tired = {0, 24, 24, 0, 0, 0, 0, 0, 0, 0};
    for (int p = 0; p < 10; p++) {
      Due.due("at(0, " + p + ", 1)", x.at(0, p, 1), loads[p]);
      Due.due("at(23, " + p + ", 2)", x.at(23, p, 2), tired[p]);
      Due.due("stands(0, " + p + ")", x.stands(0, p), p);
    }
    Due.due("sum(0)", x.sum(0), 240);
    Due.due("top(0)", x.top(0), 0);
    Due.due("top(1)", x.top(1), 24);
    Due.due("most(0)", x.most(0), 10);
    Due.due("most(1)", x.most(1), 0);
    Due.due("tower(23, 1)", x.tower(23, 1), 4);
  }

  /** What one on top weighs comes down by halves. */
  private static void loadsFromTheTop() {
    HumanPyramid x = Due.told("c19a0;c19a1;c19a2;c19a3;c29a4;c39a5;c49a6;c59a7;c69a8;c79a9");
    // 9: 0; 7, 8: 28; 4: (40 + 28) / 2; 6: (48 + 28) / 2; 5: both
    int[] loads = {25, 25 + 48, 48 + 35, 35, 34, 72, 38, 28, 28, 0};
    for (int p = 0; p < 10; p++) {
      Due.due("at(0, " + p + ", 1)", x.at(0, p, 1), loads[p]);
    }
  }

  private static void byNumbers() {
    HumanPyramid x = Due.told(UPSIDE_DOWN);
    int[] many = {4, 7, 9, 10, 10};
    int[] high = {1, 2, 3, 4, 4};
    for (int m = 0; m < many.length; m++) {
      Due.due("tower(" + m + ", 0)", x.tower(m, 0), many[m]);
      Due.due("tower(" + m + ", 1)", x.tower(m, 1), high[m]);
    }
    Due.due("at(0, 0, 0)", x.at(0, 0, 0), 1);
    Due.due("stands(3, 9)", x.stands(3, 9), 0);
    Due.due("stands(0, 0)", x.stands(0, 0), 9);
    Due.due("sum(0)", x.sum(0), 230);
    Due.due("top(0)", x.top(0), 3);
    Due.due("top(1)", x.top(1), 21);
    Due.due("most(0)", x.most(0), 10);
    Due.due("most(1)", x.most(1), 3);
    Due.due("down()", x.down(), 0);
  }

  private static void inWhateverOrderTheyCome() {
    HumanPyramid x = Due.told("s19a4;s19c0;s19e1");
    Due.due("at(3, 0, 0)", x.at(3, 0, 0), 1);
    Due.due("at(3, 2, 0)", x.at(3, 2, 0), 0);
    // both stand from 4 on, but 0 is asked ahead of them
    Due.due("at(4, 0, 0)", x.at(4, 0, 0), 1);
    Due.due("at(5, 0, 0)", x.at(5, 0, 0), 2);
    Due.due("tower(5, 1)", x.tower(5, 1), 2);
    Due.due("sum(0)", x.sum(0), 22 + 20 + 19);
  }

  private static void neverUp() {
    Due.due("down() with nobody beside", Due.told("s11a0;s11a4").down(), 2);
    Due.due("down() with nobody below", Due.told("s11a9;s11a8;s11a7").down(), 7);
    // who falls in the moment of climbing is not up behind it
    Due.due("down() of crushed ones", Due.told("s11a0;s11a1;s99a4").down(), 7);
    Due.due("down() of one who comes last", Due.told("s11x0").down(), 0);
    // 2 is up behind moment 0; later it is held back until 0 is so TIRED that climbing makes both FALL
    HumanPyramid x = Due.told("t11a0;s19a1;s41a4");
    for (int m = 4; m <= 19; m += 5) {
      x.event(2, m, 2);
      x.event(2, m + 1, 2);
    }
    for (int m = 1; m < 24; m++) {
      Due.due("stands(" + m + ", 4)", x.stands(m, 4), -1);
    }
    Due.due("stands(0, 4)", x.stands(0, 4), 2);
    Due.due("at(16, 2, 3)", x.at(16, 2, 3), 4);
    Due.due("down() of one who was up behind moment 0 alone", x.down(), 0);
  }

  private static void clumsyOnes() {
    HumanPyramid x = Due.told("s55a0;s55a1;s55a2");
    Due.due("events", x.event(0, 3, 2) + x.event(0, 5, 1), 3);
    Due.due("clumsy() of like ones", x.clumsy(), 1);
    Due.due("event", x.event(0, 9, 2), 3);
    Due.due("clumsy()", x.clumsy(), 2);
    Due.due("at(8, 2, 3)", x.at(8, 2, 3), 1);
    Due.due("at(9, 2, 3)", x.at(9, 2, 3), 2);
    Due.due("sum(1)", x.sum(1), 3);
  }

  private static void refused() {
    HumanPyramid x = Due.told("s55a0;s55a1");
    int[] moments = {-1, 24, Integer.MIN_VALUE, Integer.MAX_VALUE};
    for (int m : moments) {
      Due.due("at(" + m + ", 0, 0)", x.at(m, 0, 0), -2);
      Due.due("stands(" + m + ", 0)", x.stands(m, 0), -2);
      Due.due("tower(" + m + ", 0)", x.tower(m, 0), -2);
    }
    Due.due("at(0, 2, 0)", x.at(0, 2, 0), -2);
    Due.due("at(0, -1, 0)", x.at(0, -1, 0), -2);
    Due.due("at(0, 0, 4)", x.at(0, 0, 4), -2);
    Due.due("at(0, 0, -1)", x.at(0, 0, -1), -2);
    Due.due("stands(0, 10)", x.stands(0, 10), -2);
    Due.due("stands(0, -1)", x.stands(0, -1), -2);
    int[] whats = {-1, 2, Integer.MIN_VALUE, Integer.MAX_VALUE};
    for (int what : whats) {
      Due.due("tower(0, " + what + ")", x.tower(0, what), -2);
      Due.due("sum(" + what + ")", x.sum(what), -2);
      Due.due("top(" + what + ")", x.top(what), -2);
      Due.due("most(" + what + ")", x.most(what), -2);
    }
  }
}
