/** Promises 22 to 26: seen, forget, never, was, ask. */
final class SeenTest {
  public static void main(String[] args) {
    told();
    refused();
    nevers();
    strengths();
    weights();
    asks();
    Due.end();
  }

  private static void told() {
    HumanPyramid x = new HumanPyramid();
    Due.due("forget() of nothing", x.forget(), 0);
    for (int i = 1; i <= 8; i++) {
      Due.due("seen " + i, x.seen(23, 9, i + 2), i);
    }
    Due.due("a ninth", x.seen(0, 0, 0), -4);
    Due.due("a bad ninth", x.seen(0, 0, 11), -2);
    Due.due("count(7)", x.count(7), 8);
    Due.due("forget()", x.forget(), 8);
    Due.due("count(7)", x.count(7), 0);
    Due.due("seen again", x.seen(0, 0, 0), 1);
  }

  private static void refused() {
    HumanPyramid x = Due.told("s55a0");
    int[][] bad = {{-1, 0, 0}, {24, 0, 0}, {0, -1, 0}, {0, 10, 0}, {0, 0, -1}, {0, 0, 11}};
    for (int[] b : bad) {
      Due.due("seen(" + b[0] + ", " + b[1] + ", " + b[2] + ")", x.seen(b[0], b[1], b[2]), -2);
    }
    Due.due("count(7)", x.count(7), 0);
    Due.due("was(1, 0)", x.was(1, 0), -2);
    Due.due("was(-1, 0)", x.was(-1, 0), -2);
    Due.due("was(0, 2)", x.was(0, 2), -2);
    Due.due("was(0, -1)", x.was(0, -1), -2);
    Due.due("ask(1)", x.ask(1), -2);
    Due.due("ask(-1)", x.ask(-1), -2);
    Due.due("ask(0) of nobody", new HumanPyramid().ask(0), -2);
    Due.due("was(0, 0) of nobody", new HumanPyramid().was(0, 0), -2);
  }

  private static void nevers() {
    HumanPyramid x = Due.told("s55a0");
    Due.due("never() of no events", x.never(), 0);
    x.event(0, 3, 0);
    x.event(0, 10, 0);
    x.event(1, 5, 0);
    Due.due("never() with nothing seen", x.never(), 7);
    x.seen(3, 0, 0);
    Due.due("never(): it stood at 3", x.never(), 1);
    x.seen(10, 0, 10);
    Due.due("never(): and not at 10", x.never(), 1);
    x.seen(12, 0, 0);
    Due.due("never(): but at 12", x.never(), 0);
    x.forget();
    x.seen(12, 0, 0);
    Due.due("never(): at 12", x.never(), 2);
    x.back();
    x.back();
    Due.due("never() behind back()", x.never(), 1);
    x.seen(12, 0, 1);
    Due.due("never(): another one there too", x.never(), 0);
  }

  private static void strengths() {
    // of STRENGTH s one is beyond 4 s in moment 4 s, if not already lying
    HumanPyramid x = Due.told("t51a0");
    Due.due("was(0, 0)", x.was(0, 0), 1022);
    x.seen(4, 0, 10);
    Due.due("was(0, 0): nobody at 4", x.was(0, 0), 2);
    Due.due("was(0, 1): of any weight", x.was(0, 1), 1022);
    x.forget();
    x.seen(4, 0, 0);
    Due.due("was(0, 0): it stood at 4", x.was(0, 0), 1020);
    Due.due("was(0, 1): of no weight", x.was(0, 1), 0);
    x.seen(20, 0, 10);
    Due.due("was(0, 0): and not at 20", x.was(0, 0), 1 << 2 | 1 << 5);
    // in place of one's own, whatever that is
    x.wipe();
    Due.typeAll(x, "t59a0");
    Due.due("was(0, 0) of another one", x.was(0, 0), 1 << 2 | 1 << 5);
    Due.due("acrobat(0, 2)", x.acrobat(0, 2), 9);
    x.event(1, 1, 0);
    // all is a moment later: of 1 one lies in 5 to 7, 12 to 14, 19 to 21; of 2 in 9 to 11, 20 to 22; of 5 from 21 on
    Due.due("was(0, 0) with applause", x.was(0, 0), 1 << 1 | 1 << 2);
  }

  private static void weights() {
    // those below are TIRED by half the weight of the one on them, beyond 20
    HumanPyramid x = Due.told("s95a0;s95a1;s81a4");
    x.seen(6, 4, 10);
    Due.due("was(2, 1)", x.was(2, 1), 1 << 6 | 1 << 7 | 1 << 8 | 1 << 9);
    x.seen(5, 4, 2);
    Due.due("was(2, 1)", x.was(2, 1), 1 << 6 | 1 << 7);
    x.forget();
    x.seen(23, 4, 2);
    x.seen(22, 4, 2);
    x.seen(21, 4, 2);
    x.seen(20, 4, 2);
    x.seen(10, 4, 2);
    x.seen(6, 4, 2);
    x.seen(5, 4, 2);
    Due.due("was(2, 1): it stood all the time", x.was(2, 1), 1 << 1);
    Due.due("acrobat(2, 1)", x.acrobat(2, 1), 8);
  }

  private static void asks() {
    HumanPyramid x = Due.told("t51a0");
    // at 20 those of 1, 2 and 5 lie
    Due.due("ask(0)", x.ask(0), 20);
    x.seen(4, 0, 0);
    Due.due("ask(0): of 2 to 9", x.ask(0), 20);
    x.seen(20, 0, 10);
    // of 2 and 5 one lies and the other does not from 8 on
    Due.due("ask(0): of 2 and 5", x.ask(0), 8);
    x.seen(8, 0, 0);
    Due.due("ask(0): of 5", x.ask(0), 0);
    x.seen(8, 0, 10);
    Due.due("ask(0): of none", x.ask(0), 0);
    Due.due("was(0, 0): of none", x.was(0, 0), 0);
    // of one whose strength does not matter
    Due.due("ask(0)", Due.told("s51a0").ask(0), 0);
  }
}
