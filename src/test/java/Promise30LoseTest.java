/** Promise 30, lose: its boundary cases. */
final class Promise30LoseTest {
  public static void main(String[] args) {
    howManyItHad();
    itIsLost();
    otherSheetsStay();
    othersAreBad();
    nullOfALostOne();
    Due.end();
  }

  private static void howManyItHad() {
    Due.sentence("30: how many items it had, 0 to 60");
    for (int s = 0; s < 4; s++) {
      for (int n : new int[] {0, 1, 59, 60}) {
        HumanPyramid x = new HumanPyramid();
        x.sheet(s, n % 3, n);
        Due.due("lose(" + s + ") of " + n, x.lose(s), n);
        Due.due("lose(" + s + ") again", x.lose(s), -11);
      }
    }
  }

  private static void itIsLost() {
    Due.sentence("30: it is LOST");
    Looks.same("made and lost", Promise30LoseTest::madeAndLost, State.SOME::made);
    HumanPyramid x = State.FULL.made();
    x.lose(2);
    Due.due("get(2, 2, 0)", x.get(2, 2, 0), Refused.LEAST);
    Due.due("count(8)", x.count(8), 1);
    Due.due("put(2, 2, 0, 1)", x.put(2, 2, 0, 1), -11);
    Due.due("read(2)", x.read(2), -11);
    Due.due("write(0, 2)", x.write(0, 2), -11);
    Due.due("copy(2, 0, 0, 0, 0)", x.copy(2, 0, 0, 0, 0), -11);
    Due.due("copy(0, 0, 2, 0, 0)", x.copy(0, 0, 2, 0, 0), -11);
    // and may be made anew
    Due.due("sheet(2, 0, 3)", x.sheet(2, 0, 3), 3);
    Due.due("get(2, 0, 0)", x.get(2, 0, 0), 0);
  }

  private static HumanPyramid madeAndLost() {
    HumanPyramid x = State.SOME.made();
    x.sheet(3, 1, 9);
    x.lose(3);
    return x;
  }

  private static void otherSheetsStay() {
    Due.sentence("30: the other SHEETS stay");
    for (int s = 0; s < 4; s++) {
      HumanPyramid x = State.FULL.made();
      Due.due("lose(" + s + ")", x.lose(s), 60);
      for (int other = 0; other < 4; other++) {
        int want = other == s ? Refused.LEAST : -other - 1;
        Due.due("get(" + other + ", " + other % 3 + ", 59)", x.get(other, other % 3, 59), want);
      }
    }
  }

  private static void othersAreBad() {
    Due.sentence("30: BAD");
    for (int b : new int[] {-1, 4, Refused.LEAST, Refused.GREATEST}) {
      Refused.bad("lose(" + b + ")", x -> x.lose(b));
    }
  }

  private static void nullOfALostOne() {
    Due.sentence("30: NULL: the SHEET is LOST");
    for (int s = 0; s < 4; s++) {
      int lost = s;
      Refused.in(State.NEW, "lose(" + s + ")", x -> x.lose(lost), -11, 1);
    }
    Refused.in(State.SOME, "lose(3)", x -> x.lose(3), -11, 1);
    Refused.in(State.FAULTY, "lose(2)", x -> x.lose(2), -11, 1);
  }
}
