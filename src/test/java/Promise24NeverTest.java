/** Promise 24, never: its boundary cases. */
final class Promise24NeverTest {
  public static void main(String[] args) {
    noEvents();
    nothingSeen();
    eachAlone();
    all();
    ofNobody();
    Due.end();
  }

  private static void noEvents() {
    Due.sentence("24: EVENTS, as bits: none");
    HumanPyramid x = Due.told("s55a0");
    Due.due("never()", x.never(), 0);
    x.seen(0, 0, 0);
    Due.due("never() of what came out so", x.never(), 0);
  }

  private static void nothingSeen() {
    Due.sentence("24: nothing SEEN: all EVENTS, 8 bits at most");
    for (int n = 0; n <= 8; n++) {
      HumanPyramid x = Due.told("s55a0");
      for (int i = 0; i < n; i++) {
        x.event(i % 3, i, 0);
      }
      Due.due("never() of " + n, x.never(), (1 << n) - 1);
    }
  }

  private static void eachAlone() {
    Due.sentence("24: each of which, had it alone not been, makes all that was SEEN come out so");
    for (int i = 0; i < 8; i++) {
      HumanPyramid x = Due.told("s55a0;s55a1;s55a2;s55a3");
      for (int k = 0; k < 8; k++) {
        x.event(0, k < 4 ? 5 : 15, k % 4);
      }
      // this one stood there after all
      x.seen(i < 4 ? 5 : 15, i % 4, i % 4);
      Due.due("never(): " + i, x.never(), 1 << i);
      // two that stood there: no one of them alone
      x.seen(i < 4 ? 15 : 5, i % 4, i % 4);
      Due.due("never(): none alone", x.never(), 0);
    }
    // the same sneeze told twice: without either the other one is
    HumanPyramid y = Due.told("s55a0");
    y.event(0, 5, 0);
    y.event(0, 5, 0);
    y.seen(5, 0, 0);
    Due.due("never(): told twice", y.never(), 0);
    y.forget();
    y.seen(5, 0, 10);
    Due.due("never(): told twice", y.never(), 3);
  }

  private static void all() {
    Due.sentence("24: all that was SEEN, 8 at most");
    HumanPyramid x = Due.told("s55a0");
    x.event(0, 5, 0);
    x.event(1, 9, 0);
    for (int i = 0; i < 7; i++) {
      x.seen(i, 0, 0);
    }
    Due.due("never(): without the sneeze", x.never(), 1);
    x.seen(23, 0, 10);
    Due.due("never(): the eighth does not come out so", x.never(), 0);
    x.forget();
    x.seen(5, 0, 10);
    Due.due("never(): what is so as it is, without the APPLAUSE", x.never(), 2);
  }

  private static void ofNobody() {
    Due.sentence("24: without ACROBATS");
    HumanPyramid x = Due.told("s55a0;");
    x.event(0, 5, 0);
    x.seen(0, 0, 10);
    Due.due("never() with a FAULT", x.never(), 1);
    x.seen(0, 0, 0);
    Due.due("never() with a FAULT", x.never(), 0);
  }
}
