/** Promise 35, count: its boundary cases. */
final class Promise35CountTest {
  public static void main(String[] args) {
    allZeroAtFirst();
    allFull();
    withAFault();
    behindMoment23();
    theLatestFinding();
    othersAreBad();
    Due.end();
  }

  private static void counts(String what, HumanPyramid x, int... want) {
    for (int i = 0; i < want.length; i++) {
      Due.due(what + ": count(" + i + ")", x.count(i), want[i]);
    }
  }

  private static void allZeroAtFirst() {
    Due.sentence("35: the empty text, EVENTS, SEEN");
    counts("new", new HumanPyramid(), 0, 0, 0, 0, 0, 0, 0, 0, 0);
  }

  private static void allFull() {
    Due.sentence("35: the full text, EVENTS, SEEN");
    HumanPyramid x = Due.told(State.TEN);
    for (int i = 0; i < 8; i++) {
      x.event(1, i, 0);
      x.seen(i, i, i);
    }
    counts("full", x, 10, 59, 8, 240, 0, 10, 4, 8, 0);
  }

  private static void withAFault() {
    Due.sentence("35: with a FAULT: no ACROBATS, the bytes all the same");
    HumanPyramid x = Due.told(State.TEN.substring(0, 58));
    x.event(0, 5, 0);
    counts("58 bytes", x, 0, 58, 1, 0, 0, 0, 0, 0, 0);
  }

  private static void behindMoment23() {
    Due.sentence("35: 3 STANDING, 4 FALLS, 5 how many stand behind MOMENT 23, 6 how HIGH it is then");
    // 2 comes at last
    counts("comes in 23", Due.told("c19a0;c19a1;c19x4"), 3, 17, 0, 49, 0, 3, 2, 0, 0);
    HumanPyramid x = Due.told(State.TEN);
    x.event(0, 23, 5);
    // 5, 7, 8 and 9 FALL in 23
    counts("falls in 23", x, 10, 59, 1, 236, 4, 6, 2, 0, 0);
    x.event(0, 20, 9);
    // 9 lies in 20 to 22, and climbs in 23 no more: 7 and 8 have FALLEN
    counts("and in 20", x, 10, 59, 2, 233, 4, 6, 2, 0, 0);
  }

  private static void found(HumanPyramid x, int number) {
    Due.due("count(8)", x.count(8), number);
  }

  private static void theLatestFinding() {
    Due.sentence("35: 8 the number of the latest FINDING (0 before any)");
    HumanPyramid x = new HumanPyramid();
    found(x, 0);
    Due.due("NULL: lose(0)", x.lose(0), -11);
    found(x, 1);
    x.sheet(0, 0, 2);
    x.sheet(1, 1, 2);
    found(x, 1);
    Due.due("INDEX: put(0, 0, 2, 0)", x.put(0, 0, 2, 0), -12);
    found(x, 2);
    Due.due("CAST: put(0, 1, 0, 0)", x.put(0, 1, 0, 0), -13);
    found(x, 3);
    Due.due("STORE: copy(0, 0, 1, 0, 1)", x.copy(0, 0, 1, 0, 1), -14);
    found(x, 4);
    Due.due("SIZE: sheet(0, 0, -1)", x.sheet(0, 0, -1), -15);
    found(x, 5);
    Due.due("NULL again: get(3, 0, 0)", x.get(3, 0, 0), Refused.LEAST);
    found(x, 1);
    // it stays whatever else is told, done well or refused
    x.type('s');
    x.type(256);
    x.wipe();
    x.undo();
    x.event(0, 0, 0);
    x.event(3, 0, 0);
    x.back();
    x.back();
    x.read(0);
    x.seen(0, 0, 0);
    x.forget();
    x.lose(1);
    x.get(0, 0, 0);
    x.digest();
    found(x, 1);
  }

  private static void othersAreBad() {
    Due.sentence("35: BAD");
    for (int b : new int[] {-1, 9, Refused.LEAST, Refused.GREATEST}) {
      Refused.bad("count(" + b + ")", x -> x.count(b));
    }
  }
}
