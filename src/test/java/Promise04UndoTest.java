/** Promise 4, undo: its boundary cases. */
final class Promise04UndoTest {
  public static void main(String[] args) {
    howManyAreLeft();
    notOfAnEmptyText();
    asIfItWasNeverTyped();
    Due.end();
  }

  private static void howManyAreLeft() {
    Due.sentence("4: the last byte is undone: how many are left, 58 to 0");
    HumanPyramid x = Due.told(State.TEN);
    for (int left = 58; left >= 0; left--) {
      Due.due("undo()", x.undo(), left);
      Due.due("count(1)", x.count(1), left);
      Due.due("count(0)", x.count(0), left % 6 == 5 ? left / 6 + 1 : 0);
      Due.due("fault()", x.fault(), left == 0 || left % 6 == 5 ? -1 : left);
    }
    Due.due("undo()", x.undo(), -3);
  }

  private static void notOfAnEmptyText() {
    Due.sentence("4: NOT: it is empty");
    Refused.in(State.NEW, "undo()", x -> x.undo(), -3, 0);
    HumanPyramid x = State.SOME.made();
    x.wipe();
    Due.due("undo() of a wiped one", x.undo(), -3);
    Due.due("count(1)", x.count(1), 0);
    Due.due("count(8)", x.count(8), 4);
  }

  private static void asIfItWasNeverTyped() {
    Due.sentence("4: the last byte is undone");
    for (int b : new int[] {0, ';', '9', 255}) {
      Looks.same("type(" + b + ") and undo()", () -> typedAndUndone(b), State.SOME::made);
    }
    // the byte with the FAULT goes, and what was ahead of it counts again
    HumanPyramid x = State.FAULTY.made();
    Due.due("fault()", x.fault(), 12);
    Due.due("undo()", x.undo(), 12);
    Due.due("fault()", x.fault(), 12);
    Due.due("undo()", x.undo(), 11);
    Due.due("fault()", x.fault(), -1);
    Due.due("count(0)", x.count(0), 2);
    // a PLACE that was another one's already may be told anew, and one that was undone is free
    HumanPyramid y = Due.told("s55a0;t51a0");
    Due.due("fault()", y.fault(), 10);
    Due.due("undo()", y.undo(), 10);
    Due.due("type('1')", y.type('1'), 11);
    Due.due("fault()", y.fault(), -1);
    Due.due("undo()", y.undo(), 10);
    Due.due("type('1')", y.type('1'), 11);
    Due.due("fault()", y.fault(), -1);
    Due.due("count(0)", y.count(0), 2);
  }

  private static HumanPyramid typedAndUndone(int b) {
    HumanPyramid x = State.SOME.made();
    x.type(b);
    x.undo();
    return x;
  }
}
