/** Promise 3, wipe: its boundary cases. */
final class Promise03WipeTest {
  public static void main(String[] args) {
    howManyItHad();
    itIsEmpty();
    nothingElseGoes();
    Due.end();
  }

  private static void howManyItHad() {
    Due.sentence("3: how many bytes it had, 0 to 59");
    for (int n = 0; n <= 59; n++) {
      HumanPyramid x = Due.told(State.TEN.substring(0, n));
      Due.due("wipe() of " + n, x.wipe(), n);
      Due.due("wipe() again", x.wipe(), 0);
    }
    Due.due("wipe() with a FAULT", Due.told("zz;").wipe(), 3);
  }

  private static void itIsEmpty() {
    Due.sentence("3: the text is empty");
    HumanPyramid x = State.FULL.made();
    x.wipe();
    Due.due("count(0)", x.count(0), 0);
    Due.due("count(1)", x.count(1), 0);
    Due.due("fault()", x.fault(), -1);
    Due.due("undo()", x.undo(), -3);
    Due.due("acrobat(0, 0)", x.acrobat(0, 0), -2);
    Due.due("sum(0)", x.sum(0), 0);
    Due.due("type('s')", x.type('s'), 1);
    HumanPyramid y = State.FAULTY.made();
    y.wipe();
    Due.due("fault() behind wipe()", y.fault(), -1);
    Looks.same("wiped", Promise03WipeTest::wipedTen, HumanPyramid::new);
  }

  private static HumanPyramid wipedTen() {
    HumanPyramid x = Due.told(State.TEN);
    x.wipe();
    return x;
  }

  private static void nothingElseGoes() {
    Due.sentence("3: EVENTS, SEEN and SHEETS stay");
    HumanPyramid x = State.FULL.made();
    x.wipe();
    Due.due("count(2)", x.count(2), 8);
    Due.due("count(7)", x.count(7), 8);
    Due.due("count(8)", x.count(8), 3);
    Due.due("get(3, 0, 59)", x.get(3, 0, 59), -4);
    // typed once more, all is as before
    Looks.same("wiped and typed again", Promise03WipeTest::wipedAndTypedAgain, State.FULL::made);
  }

  private static HumanPyramid wipedAndTypedAgain() {
    HumanPyramid x = State.FULL.made();
    x.wipe();
    for (int i = 0; i < 59; i++) {
      x.type(State.TEN.charAt(i));
    }
    return x;
  }
}
