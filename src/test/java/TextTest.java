/** Promises 1 to 6: a new object, type, wipe, undo, fault, acrobat. */
final class TextTest {
  public static void main(String[] args) {
    aNewObject();
    bytesComeAndGo();
    fullAtFiftyNine();
    faults();
    places();
    acrobats();
    withAFaultThereAreNone();
    Due.end();
  }

  private static void aNewObject() {
    HumanPyramid x = new HumanPyramid();
    for (int what = 0; what <= 8; what++) {
      Due.due("new: count(" + what + ")", x.count(what), 0);
    }
    Due.due("new: fault()", x.fault(), -1);
    for (int s = 0; s < 4; s++) {
      Due.due("new: lose(" + s + ")", x.lose(s), -11);
    }
    Due.due("NONE", HumanPyramid.NONE, -1);
    Due.due("BAD", HumanPyramid.BAD, -2);
    Due.due("NOT", HumanPyramid.NOT, -3);
    Due.due("FULL", HumanPyramid.FULL, -4);
  }

  private static void bytesComeAndGo() {
    HumanPyramid x = new HumanPyramid();
    Due.due("type(0)", x.type(0), 1);
    Due.due("type(255)", x.type(255), 2);
    Due.due("type(256)", x.type(256), -2);
    Due.due("type(-1)", x.type(-1), -2);
    Due.due("type(least int)", x.type(Integer.MIN_VALUE), -2);
    Due.due("count(1)", x.count(1), 2);
    Due.due("undo()", x.undo(), 1);
    Due.due("undo()", x.undo(), 0);
    Due.due("undo() of an empty text", x.undo(), -3);
    Due.typeAll(x, "s55");
    Due.due("wipe()", x.wipe(), 3);
    Due.due("wipe() of an empty text", x.wipe(), 0);
    Due.due("fault() behind wipe()", x.fault(), -1);
    Due.typeAll(x, "s55a0;t");
    Due.due("undo()", x.undo(), 6);
    Due.due("undo()", x.undo(), 5);
    Due.due("fault() behind undo()", x.fault(), -1);
    Due.due("count(0) behind undo()", x.count(0), 1);
  }

  private static void fullAtFiftyNine() {
    HumanPyramid x = Due.told("c19a0;c19a1;c19a2;c19a3;c19a4;c19a5;c19a6;c19a7;c19a8;c19a9");
    Due.due("ten acrobats", x.count(0), 10);
    Due.due("type(';') into a full text", x.type(';'), -4);
    Due.due("type(256) into a full text", x.type(256), -2);
    Due.due("count(1)", x.count(1), 59);
    Due.due("undo()", x.undo(), 58);
    Due.due("fault() of 58 bytes", x.fault(), 58);
    Due.due("type('8')", x.type('8'), 59);
    Due.due("fault(): 8 is the ninth one's", x.fault(), 58);
  }

  private static void fault(String text, int want) {
    Due.due("fault() of " + text, Due.told(text).fault(), want);
  }

  private static void faults() {
    fault("", -1);
    fault("s11a0", -1);
    fault("t99x9", -1);
    fault("c55m5;s11a0", -1);
    fault("u", 0);
    fault("S", 0);
    fault(";", 0);
    fault("s", 1);
    fault("s0", 1);
    fault("s:", 1);
    fault("s1", 2);
    fault("s10", 2);
    fault("s1:", 2);
    fault("s11", 3);
    fault("s11`", 3);
    fault("s11y", 3);
    fault("s11A", 3);
    fault("s11a", 4);
    fault("s11a/", 4);
    fault("s11a:", 4);
    fault("s11a0s", 5);
    fault("s11a0;", 6);
    fault("s11a0;;", 6);
    fault("s11a0;c", 7);
    fault("s11a0;c11a1;x", 12);
    fault("s1\u00b1", 2);
    // the first of several counts
    fault("s1xa0;u", 2);
  }

  private static void places() {
    fault("s11a5;t22b5", 10);
    fault("s11a5;t22b4;c11a5", 16);
    fault("s11a5;t22b4;c11a4;s11a5", 16);
    fault("s11a5;t22b6", -1);
  }

  private static void acrobats() {
    HumanPyramid x = Due.told("s12a3;t98x0;c55m9");
    int[][] want = {{0, 1, 2, 0, 3}, {1, 9, 8, 23, 0}, {2, 5, 5, 12, 9}};
    for (int a = 0; a < 3; a++) {
      for (int what = 0; what < 5; what++) {
        Due.due("acrobat(" + a + ", " + what + ")", x.acrobat(a, what), want[a][what]);
      }
    }
    Due.due("acrobat(3, 0)", x.acrobat(3, 0), -2);
    Due.due("acrobat(-1, 0)", x.acrobat(-1, 0), -2);
    Due.due("acrobat(0, 5)", x.acrobat(0, 5), -2);
    Due.due("acrobat(0, -1)", x.acrobat(0, -1), -2);
    Due.due("acrobat of nobody", new HumanPyramid().acrobat(0, 0), -2);
  }

  private static void withAFaultThereAreNone() {
    HumanPyramid x = Due.told("s55a0;");
    Due.due("count(0)", x.count(0), 0);
    Due.due("count(1)", x.count(1), 6);
    Due.due("count(3)", x.count(3), 0);
    Due.due("acrobat(0, 0)", x.acrobat(0, 0), -2);
    Due.due("at(0, 0, 0)", x.at(0, 0, 0), -2);
    Due.due("stands(0, 0)", x.stands(0, 0), -1);
    Due.due("wipe() with a fault", x.wipe(), 6);
  }
}
