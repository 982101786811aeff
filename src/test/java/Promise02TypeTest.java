/** Promise 2, type: its boundary cases. */
final class Promise02TypeTest {
  public static void main(String[] args) {
    aByteIs0To255();
    howMany();
    fullAt59();
    roomAgain();
    othersAreBad();
    badAheadOfFull();
    Due.end();
  }

  private static void aByteIs0To255() {
    Due.sentence("2: a byte, 0 to 255");
    for (int b = 0; b <= 255; b++) {
      HumanPyramid x = new HumanPyramid();
      Due.due("type(" + b + ")", x.type(b), 1);
      Due.due("count(1)", x.count(1), 1);
      Due.due("fault() of " + b, x.fault(), b == 's' || b == 't' || b == 'c' ? 1 : 0);
    }
  }

  private static void howMany() {
    Due.sentence("2: how many; up to 59 bytes, well or not");
    HumanPyramid x = new HumanPyramid();
    HumanPyramid y = new HumanPyramid();
    for (int n = 1; n <= 59; n++) {
      Due.due("type(0), the " + n + "th", x.type(0), n);
      Due.due("type of TEN, the " + n + "th", y.type(State.TEN.charAt(n - 1)), n);
      Due.due("count(1)", x.count(1), n);
      Due.due("count(1)", y.count(1), n);
    }
    Due.due("count(0) of ten", y.count(0), 10);
  }

  private static void fullAt59() {
    Due.sentence("2: FULL");
    for (int b : new int[] {0, ';', 's', '0', 255}) {
      Refused.in(State.FULL, "type(" + b + ")", x -> x.type(b), -4, 0);
    }
    HumanPyramid x = new HumanPyramid();
    for (int n = 1; n <= 59; n++) {
      x.type(0);
    }
    Due.due("a 60th, of a text with a FAULT", x.type(0), -4);
  }

  private static void roomAgain() {
    Due.sentence("2: FULL no more");
    HumanPyramid x = State.FULL.made();
    Due.due("undo()", x.undo(), 58);
    Due.due("type('9')", x.type('9'), 59);
    Due.due("type('9')", x.type('9'), -4);
    Due.due("wipe()", x.wipe(), 59);
    Due.typeAll(x, State.TEN);
    Due.due("type(';')", x.type(';'), -4);
  }

  private static void othersAreBad() {
    Due.sentence("2: BAD");
    for (int b : new int[] {-1, 256, 's' + 256, -256, Refused.LEAST, Refused.GREATEST}) {
      Refused.bad("type(" + b + ")", x -> x.type(b));
    }
  }

  private static void badAheadOfFull() {
    Due.sentence("2: BAD ahead of FULL");
    HumanPyramid x = State.FULL.made();
    Due.due("type(256)", x.type(256), -2);
    Due.due("type(-1)", x.type(-1), -2);
    Due.due("type(255)", x.type(255), -4);
  }
}
