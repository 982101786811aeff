/** Promise 8, back: its boundary cases. */
final class Promise08BackTest {
  public static void main(String[] args) {
    howManyAreLeft();
    notOfNone();
    asIfItWasNeverTold();
    Due.end();
  }

  private static void howManyAreLeft() {
    Due.sentence("8: how many are left, 7 to 0");
    HumanPyramid x = State.FULL.made();
    for (int left = 7; left >= 0; left--) {
      Due.due("back()", x.back(), left);
      Due.due("count(2)", x.count(2), left);
    }
    Due.due("back()", x.back(), -3);
    Due.due("count(2)", x.count(2), 0);
  }

  private static void notOfNone() {
    Due.sentence("8: NOT: there is none");
    Refused.in(State.NEW, "back()", x -> x.back(), -3, 0);
    HumanPyramid x = Due.told("s55a0");
    x.sheet(0, 0, -1);
    Due.due("back()", x.back(), -3);
    Due.due("count(8)", x.count(8), 5);
    Due.due("sum(0)", x.sum(0), 24);
    Due.due("event(0, 23, 0)", x.event(0, 23, 0), 1);
  }

  private static void asIfItWasNeverTold() {
    Due.sentence("8: the last EVENT is undone");
    Looks.same("event and back()", Promise08BackTest::toldAndUndone, State.SOME::made);
    HumanPyramid x = Due.told("s55a0");
    x.event(0, 3, 0);
    x.event(0, 10, 0);
    Due.due("sum(1)", x.sum(1), 2);
    x.back();
    Due.due("sum(1)", x.sum(1), 1);
    Due.due("the last one, not the first: at(3, 0, 0)", x.at(3, 0, 0), 3);
    Due.due("the last one, not the first: at(10, 0, 0)", x.at(10, 0, 0), 2);
  }

  private static HumanPyramid toldAndUndone() {
    HumanPyramid x = State.SOME.made();
    x.event(0, 2, 1);
    x.digest();
    x.back();
    return x;
  }
}
