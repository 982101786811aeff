/** Promise 23, forget: its boundary cases. */
final class Promise23ForgetTest {
  public static void main(String[] args) {
    howMany();
    allAreForgotten();
    nothingElseGoes();
    Due.end();
  }

  private static void howMany() {
    Due.sentence("23: how many, 0 to 8");
    for (int n = 0; n <= 8; n++) {
      HumanPyramid x = new HumanPyramid();
      for (int i = 0; i < n; i++) {
        x.seen(i, i, i);
      }
      Due.due("forget() of " + n, x.forget(), n);
      Due.due("count(7)", x.count(7), 0);
      Due.due("forget() again", x.forget(), 0);
    }
  }

  private static void allAreForgotten() {
    Due.sentence("23: all SEEN are forgotten");
    HumanPyramid x = Due.told("t51a0");
    x.event(1, 9, 0);
    x.seen(4, 0, 0);
    x.seen(4, 0, 10);
    Due.due("was(0, 0)", x.was(0, 0), 0);
    Due.due("was(0, 1)", x.was(0, 1), 0);
    Due.due("never()", x.never(), 0);
    Due.due("forget()", x.forget(), 2);
    Due.due("was(0, 0)", x.was(0, 0), 1022);
    Due.due("was(0, 1)", x.was(0, 1), 1022);
    Due.due("never()", x.never(), 1);
    x.seen(4, 0, 10);
    Due.due("was(0, 0)", x.was(0, 0), 2);
  }

  private static void nothingElseGoes() {
    Due.sentence("23: ACROBATS, EVENTS and SHEETS stay");
    Looks.same("seen and forgotten", Promise23ForgetTest::seenAndForgotten, Promise23ForgetTest::neverSeen);
  }

  private static HumanPyramid neverSeen() {
    HumanPyramid x = Due.told("t51a0;c95b1;s82a4");
    x.event(0, 3, 0);
    Due.fill(x, 0, 0, 1, 2, 3);
    return x;
  }

  private static HumanPyramid seenAndForgotten() {
    HumanPyramid x = neverSeen();
    for (int i = 0; i < 8; i++) {
      x.seen(i, 0, 1);
    }
    x.digest();
    x.forget();
    return x;
  }
}
