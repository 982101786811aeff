/** Promise 20, train: its boundary cases. */
final class Promise20TrainTest {
  public static void main(String[] args) {
    none();
    ofLikeOnesTheLeast();
    nineAtMost();
    fromEightToNine();
    theFirstAndTheTenth();
    ofWhatIsToldAtTheTime();
    nothingIsTrained();
    othersAreBad();
    Due.end();
  }

  private static void train(String text, int which, int much) {
    HumanPyramid x = Due.told(text);
    Due.due(text + ": train(0)", x.train(0), which);
    Due.due(text + ": train(1)", x.train(1), much);
  }

  private static void none() {
    Due.sentence("20: NONE: there are none");
    train("", -1, -1);
    train("s11a0;", -1, -1);
  }

  private static void ofLikeOnesTheLeast() {
    Due.sentence("20: so that STANDING is most, of like ones the least");
    train("s11a4", 0, 0);
    train("s11a0;s11a1", 0, 48);
    train("t51a0;t51a1", 0, 33);
    train("s51a0;t51a1;t51a2", 1, 24 + 18 + 15);
    train(State.TEN, 0, 240);
  }

  private static void nineAtMost() {
    Due.sentence("20: stronger by 1 (9 at most)");
    // at PLACES 1 and 2 one bears 153 eighths: more than 144, but not than 160
    String ten = "s99a0;s99a1;s99a2;s99a3;s99a4;s99a5;s99a6;s99a7;s99a8;s99a9";
    HumanPyramid x = Due.told(ten);
    Due.due("at(0, 1, 1)", x.at(0, 1, 1), 153);
    train(ten, 0, x.sum(0));
  }

  private static void fromEightToNine() {
    Due.sentence("20: stronger by 1, 8 to 9");
    // 36 and 36 on the middle one: 9 a MOMENT, beyond 32 in the fourth, beyond 36 in the fifth: 3 or 4 of 6 or 7
    HumanPyramid eight = Due.told("s19a0;s18a1;s19a2;s99a4;s99a5");
    HumanPyramid nine = Due.told("s19a0;s19a1;s19a2;s99a4;s99a5");
    Due.due("at(3, 1, 0) of 8", eight.at(3, 1, 0), 3);
    Due.due("at(3, 1, 0) of 9", nine.at(3, 1, 0), 2);
    Due.due("train(0)", eight.train(0), 1);
    Due.due("train(1)", eight.train(1), nine.sum(0));
    Due.due("of 9 as it is: train(1)", nine.train(1), nine.sum(0));
  }

  private static void theFirstAndTheTenth() {
    Due.sentence("20: the ACROBAT, 0 to 9");
    for (int a = 0; a < 4; a++) {
      StringBuilder text = new StringBuilder("s51a0;s51a1;s51a2;s51a3");
      text.setCharAt(6 * a, 't');
      train(text.toString(), a, 72 + 18);
    }
    // on top a trembling one FALLS in 20 at last, and would not if stronger
    HumanPyramid y = Due.told(State.ten("t15a9"));
    Due.due("sum(0)", y.sum(0), 237);
    Due.due("train(0)", y.train(0), 9);
    Due.due("train(1)", y.train(1), 240);
  }

  private static void ofWhatIsToldAtTheTime() {
    Due.sentence("20: of the ACROBATS and EVENTS there are");
    HumanPyramid x = Due.told("t51a0;t59a1");
    Due.due("train(1)", x.train(1), 42);
    x.event(0, 20, 1);
    Due.due("train(1) with a sneeze", x.train(1), 39);
    x.back();
    Due.due("train(1) without it", x.train(1), 42);
    x.undo();
    Due.due("train(0) with a FAULT", x.train(0), -1);
    x.wipe();
    Due.typeAll(x, "t59a1;t51a0");
    Due.due("train(0)", x.train(0), 1);
  }

  private static void nothingIsTrained() {
    Due.sentence("20: what had better be is not done");
    HumanPyramid x = Due.told("t51a0;t51a1");
    Due.due("train(1)", x.train(1), 33);
    Due.due("acrobat(0, 2)", x.acrobat(0, 2), 1);
    Due.due("acrobat(1, 2)", x.acrobat(1, 2), 1);
    Due.due("sum(0)", x.sum(0), 30);
  }

  private static void othersAreBad() {
    Due.sentence("20: BAD");
    for (int b : new int[] {-1, 2, Refused.LEAST, Refused.GREATEST}) {
      Refused.bad("train(" + b + ")", x -> x.train(b));
    }
  }
}
