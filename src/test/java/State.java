/** What an object has been told when a call is refused: nothing, something of all, a text with a FAULT, all it can hold. */
enum State {
  NEW, SOME, FAULTY, FULL;

  /** Ten who stand from MOMENT 0 on and hardly tire: ACROBAT a at PLACE a; each bears 17 eighths at most. */
  static final String TEN = "c19a0;c19a1;c19a2;c19a3;c19a4;c19a5;c19a6;c19a7;c19a8;c19a9";

  /** TEN with others in place of some: each is put where its last figure tells. */
  static String ten(String... others) {
    StringBuilder text = new StringBuilder(TEN);
    for (String one : others) {
      int at = 6 * (one.charAt(4) - '0');
      text.replace(at, at + 5, one);
    }
    return text.toString();
  }

  HumanPyramid made() {
    HumanPyramid x = new HumanPyramid();
    switch (this) {
      case SOME: tellSome(x); break;
      case FAULTY: tellWithAFault(x); break;
      case FULL: tellAll(x); break;
      default: break;
    }
    return x;
  }

  private static void tellSome(HumanPyramid x) {
    type(x, "t51a0;c95b1;s82a4");
    x.event(0, 3, 0);
    x.event(1, 5, 1);
    x.event(2, 8, 2);
    x.seen(2, 0, 0);
    x.seen(9, 4, 10);
    Due.fill(x, 0, 0, 1, -2, 3, -4, 5);
    Due.fill(x, 1, 1, 300, -300);
    Due.fill(x, 2, 2, 70000, -70000, 7);
    Due.due("copy(0, 0, 1, 0, 1)", x.copy(0, 0, 1, 0, 1), -14);
  }

  private static void tellWithAFault(HumanPyramid x) {
    type(x, "s55a0;t51b1;x");
    x.event(0, 3, 0);
    x.event(0, 7, 1);
    x.seen(2, 0, 0);
    x.sheet(1, 0, 0);
  }

  private static void tellAll(HumanPyramid x) {
    type(x, TEN);
    for (int i = 0; i < 8; i++) {
      x.event(i % 3, 2 * i + 1, 9 - i);
      x.seen(3 * i, i, i == 7 ? 10 : i);
    }
    for (int s = 0; s < 4; s++) {
      x.sheet(s, s % 3, 60);
      x.put(s, s % 3, 0, s + 1);
      x.put(s, s % 3, 59, -s - 1);
    }
    Due.due("put(0, 1, 0, 0)", x.put(0, 1, 0, 0), -13);
  }

  private static void type(HumanPyramid x, String text) {
    for (int i = 0; i < text.length(); i++) {
      x.type(text.charAt(i));
    }
  }
}
