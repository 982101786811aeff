/** Promise 32, get: its boundary cases. */
final class Promise32GetTest {
  private static final int LEAST = Integer.MIN_VALUE;

  public static void main(String[] args) {
    theFirstAndTheLastItem();
    theLeastIntAsAnItem();
    othersAreBad();
    nulls();
    casts();
    indexes();
    theFirstThatFits();
    goodOnesFindNothing();
    Due.end();
  }

  private static void theFirstAndTheLastItem() {
    Due.sentence("32: item i of it");
    HumanPyramid x = State.FULL.made();
    for (int s = 0; s < 4; s++) {
      Due.due("get(" + s + ", " + s % 3 + ", 0)", x.get(s, s % 3, 0), s + 1);
      Due.due("get(" + s + ", " + s % 3 + ", 1)", x.get(s, s % 3, 1), 0);
      Due.due("get(" + s + ", " + s % 3 + ", 58)", x.get(s, s % 3, 58), 0);
      Due.due("get(" + s + ", " + s % 3 + ", 59)", x.get(s, s % 3, 59), -s - 1);
    }
  }

  private static void theLeastIntAsAnItem() {
    Due.sentence("32: (count() 8 tells)");
    HumanPyramid x = new HumanPyramid();
    Due.fill(x, 0, 2, LEAST);
    Due.due("get(0, 2, 0)", x.get(0, 2, 0), LEAST);
    Due.due("count(8)", x.count(8), 0);
    Due.due("get(0, 2, 1)", x.get(0, 2, 1), LEAST);
    Due.due("count(8)", x.count(8), 2);
  }

  private static void othersAreBad() {
    Due.sentence("32: BAD: the least int");
    for (int b : new int[] {-1, 4, LEAST, Refused.GREATEST}) {
      Refused.everywhere("get(" + b + ", 0, 0)", x -> x.get(b, 0, 0), LEAST);
    }
    for (int b : new int[] {-1, 3, LEAST, Refused.GREATEST}) {
      Refused.everywhere("get(0, " + b + ", 0)", x -> x.get(0, b, 0), LEAST);
    }
  }

  private static void nulls() {
    Due.sentence("32: NULL");
    for (int s = 0; s < 4; s++) {
      int lost = s;
      Refused.in(State.NEW, "get(" + s + ", 1, 0)", x -> x.get(lost, 1, 0), LEAST, 1);
    }
    Refused.in(State.SOME, "get(3, 0, 0)", x -> x.get(3, 0, 0), LEAST, 1);
  }

  private static void casts() {
    Due.sentence("32: CAST");
    for (int s = 0; s < 3; s++) {
      for (int form = 0; form < 3; form++) {
        int sheet = s;
        int as = form;
        if (s != form) {
          Refused.in(State.SOME, "get(" + s + ", " + form + ", 0)", x -> x.get(sheet, as, 0), LEAST, 3);
        }
      }
    }
  }

  private static void indexes() {
    Due.sentence("32: INDEX");
    for (int i : new int[] {-1, 2, 59, 60, LEAST, Refused.GREATEST}) {
      Refused.in(State.SOME, "get(1, 1, " + i + ")", x -> x.get(1, 1, i), LEAST, 2);
    }
    for (int i : new int[] {-1, 60, LEAST, Refused.GREATEST}) {
      Refused.in(State.FULL, "get(3, 0, " + i + ")", x -> x.get(3, 0, i), LEAST, 2);
    }
    Refused.in(State.FAULTY, "get(1, 0, 0) of an empty one", x -> x.get(1, 0, 0), LEAST, 2);
  }

  private static void theFirstThatFits() {
    Due.sentence("32: BAD; NULL, CAST, INDEX: the first that fits");
    Refused.in(State.SOME, "get(3, 3, -1)", x -> x.get(3, 3, -1), LEAST, 0);
    Refused.in(State.SOME, "get(4, 0, -1)", x -> x.get(4, 0, -1), LEAST, 0);
    Refused.in(State.SOME, "get(3, 0, -1)", x -> x.get(3, 0, -1), LEAST, 1);
    Refused.in(State.SOME, "get(0, 1, -1)", x -> x.get(0, 1, -1), LEAST, 3);
    Refused.in(State.SOME, "get(0, 1, 5)", x -> x.get(0, 1, 5), LEAST, 3);
  }

  private static void goodOnesFindNothing() {
    Due.sentence("32: a good one changes nothing");
    Looks.same("get(0, 0, 0)", Promise32GetTest::withGet, State.SOME::made);
  }

  private static HumanPyramid withGet() {
    HumanPyramid x = State.SOME.made();
    x.get(0, 0, 0);
    x.get(2, 2, 2);
    return x;
  }
}
