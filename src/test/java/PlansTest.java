/** Promises 18 to 21: swap, come, train, spare. */
final class PlansTest {
  public static void main(String[] args) {
    swaps();
    comes();
    trains();
    spares();
    answersFollowWhatIsTold();
    refused();
    Due.end();
  }

  private static void swap(HumanPyramid x, int first, int other, int much) {
    Due.due("swap(0)", x.swap(0), first);
    Due.due("swap(1)", x.swap(1), other);
    Due.due("swap(2)", x.swap(2), much);
  }

  private static void swaps() {
    swap(new HumanPyramid(), -1, -1, -1);
    swap(Due.told("s55a0"), -1, -1, -1);
    // the trembling one falls again and again (15); the steady one would not (24)
    swap(Due.told("t51a0;s51a4"), 0, 1, 24);
    swap(Due.told("t51a0;s51a4;s51a5"), 0, 1, 24);
    swap(Due.told("s51a5;t51a0;s51a4"), 0, 1, 24);
    swap(Due.told("t51a5;t51a0;s51a4"), 1, 2, 24);
    // two must change, even if all stand well as they are
    swap(Due.told("s51a0;s51a4"), 0, 1, 24);
    swap(Due.told("t51a4;s51a0"), 0, 1, 15);
    // the places change, not the moments: 1 is there from 10 on wherever one stands
    swap(Due.told("s51a0;s51k4"), 0, 1, 14);
  }

  private static void comes() {
    HumanPyramid x = Due.told("t51k0");
    Due.due("come(0, 0)", x.come(0, 0), 0);
    Due.due("come(0, 1)", x.come(0, 1), 15);
    // whoever of these three comes makes all fall at once, and lie
    HumanPyramid y = Due.told("s11a0;s11a1;s99a4");
    Due.due("come(2, 0)", y.come(2, 0), 23);
    Due.due("come(2, 1)", y.come(2, 1), 46);
    Due.due("come(0, 0)", y.come(0, 0), 23);
    Due.due("come(0, 1)", y.come(0, 1), 23);
    // of like ones the least
    HumanPyramid z = Due.told("s11d4");
    Due.due("come(0, 0) of one who never stands", z.come(0, 0), 0);
    Due.due("come(0, 1)", z.come(0, 1), 0);
    // acrobat() tells what was told all the same
    Due.due("acrobat(0, 3)", z.acrobat(0, 3), 3);
  }

  private static void train(String text, int who, int much) {
    HumanPyramid x = Due.told(text);
    Due.due("train(0) of " + text, x.train(0), who);
    Due.due("train(1) of " + text, x.train(1), much);
  }

  private static void trains() {
    train("", -1, -1);
    // of strength 2 one stands for 8 moments and lies for 3
    train("t51a0", 0, 18);
    train("t51a0;t51a1", 0, 33);
    train("t59a0;t51a1", 1, 42);
    train("t59a0", 0, 24);
    train("s51a0;s51a1", 0, 48);
    // each is tried alone
    train("t51a0;t51a1;t52a2", 0, 15 + 18 + 18);
  }

  private static void spare(HumanPyramid x, int many, int first, int second) {
    Due.due("spare(-1)", x.spare(-1), many);
    Due.due("spare(0)", x.spare(0), first);
    Due.due("spare(1)", x.spare(1), second);
  }

  private static void spares() {
    HumanPyramid x = Due.told("s55a0");
    spare(x, 0, -1, -1);
    x.event(1, 2, 0);
    spare(x, 0, -1, -1);
    x.event(0, 3, 0);
    spare(x, 1, 1, -1);
    x.event(2, 3, 0);
    spare(x, 1, 1, -1);
    // one who lies cannot fall, but without the first sneeze this one would fall here
    x.event(0, 5, 0);
    spare(x, 2, 1, 3);
    x.event(0, 15, 0);
    spare(x, -1, -1, -1);
    x.back();
    spare(x, 2, 1, 3);
    // who falls without any of them
    spare(Due.told("s11a0;s11a1;s99a4"), -1, -1, -1);
    // the first sneeze comes before anybody stands: it need not be spared
    HumanPyramid y = Due.told("s55a0;s55a1");
    y.event(0, 0, 0);
    y.event(0, 7, 1);
    y.event(0, 9, 1);
    spare(y, 2, 1, 2);
  }

  private static void answersFollowWhatIsTold() {
    HumanPyramid x = Due.told("t51a0;s51a4");
    swap(x, 0, 1, 24);
    Due.due("train(1)", x.train(1), 18);
    Due.due("come(0, 1)", x.come(0, 1), 15);
    x.event(0, 23, 1);
    swap(x, 0, 1, 23);
    x.back();
    swap(x, 0, 1, 24);
    x.undo();
    swap(x, -1, -1, -1);
    spare(x, 0, -1, -1);
    Due.due("train(1) of nobody", x.train(1), -1);
    Due.due("come(0, 1) of nobody", x.come(0, 1), -2);
    x.type('5');
    swap(x, 0, 1, 24);
    spare(x, -1, -1, -1);
    HumanPyramid y = Due.told("s55a0");
    y.event(0, 3, 0);
    spare(y, 1, 0, -1);
    Due.due("come(0, 1)", y.come(0, 1), 23 - 3 + 1);
    y.back();
    y.event(1, 3, 0);
    spare(y, 0, -1, -1);
    Due.due("come(0, 1)", y.come(0, 1), 24);
  }

  private static void refused() {
    HumanPyramid x = Due.told("s55a0;s55a1");
    int[] bad = {Integer.MIN_VALUE, Integer.MAX_VALUE, -2, 3};
    for (int b : bad) {
      Due.due("swap(" + b + ")", x.swap(b), -2);
      Due.due("come(0, " + b + ")", x.come(0, b), -2);
      Due.due("come(" + b + ", 0)", x.come(b, 0), -2);
      Due.due("train(" + b + ")", x.train(b), -2);
      Due.due("spare(" + b + ")", x.spare(b), -2);
    }
    Due.due("swap(-1)", x.swap(-1), -2);
    Due.due("come(2, 0)", x.come(2, 0), -2);
    Due.due("come(0, 2)", x.come(0, 2), -2);
    Due.due("train(-1)", x.train(-1), -2);
    Due.due("train(2)", x.train(2), -2);
    Due.due("spare(2)", x.spare(2), -2);
    Due.due("swap(3) of nobody", new HumanPyramid().swap(3), -2);
    Due.due("train(2) of nobody", new HumanPyramid().train(2), -2);
  }
}
