/** Promises 35 and 36: count, digest. */
final class CountTest {
  public static void main(String[] args) {
    counts();
    digestOf("a new one", new HumanPyramid());
    digestOf("one with a fault", Due.told("s55a0;"));
    HumanPyramid x = Due.told("t51a0;c95b1;s82a4");
    digestOf("three", x);
    x.event(0, 3, 0);
    x.event(1, 5, 1);
    x.event(2, 8, 2);
    digestOf("three with events", x);
    x.seen(2, 0, 0);
    digestOf("three with events and a sight", x);
    findingsLeaveItAlone(x);
    Due.end();
  }

  private static void counts() {
    HumanPyramid x = Due.told("t51a0;s95a1;s81j4");
    x.event(2, 3, 0);
    x.event(1, 23, 0);
    x.seen(0, 0, 0);
    int[] want = new int[9];
    want[0] = 3;
    want[1] = 17;
    want[2] = 2;
    want[3] = x.sum(0);
    want[4] = x.sum(1);
    want[5] = x.tower(23, 0);
    want[6] = x.tower(23, 1);
    want[7] = 1;
    for (int what = 0; what < 9; what++) {
      Due.due("count(" + what + ")", x.count(what), want[what]);
    }
    Due.due("count(-1)", x.count(-1), -2);
    Due.due("count(9)", x.count(9), -2);
    HumanPyramid y = Due.told("c19a0;c19a1;c19x4;t51a3");
    y.event(0, 22, 0);
    // 0 lies from 22 on, so 2 never climbs; 3 stands 15 times and falls thrice
    Due.due("count(3)", y.count(3), 22 + 24 + 15);
    Due.due("count(4)", y.count(4), 4);
    Due.due("count(5)", y.count(5), 2);
    Due.due("count(6)", y.count(6), 1);
  }

  private static void digestOf(String which, HumanPyramid x) {
    long h = 17;
    for (int i = 0; i <= 7; i++) h = 31 * h + x.count(i);
    h = 31 * h + x.fault();
    for (int m = 0; m <= 23; m++) {
      h = 31 * h + x.tower(m, 0);
      h = 31 * h + x.tower(m, 1);
      h = 31 * h + x.stands(m, 0);
      h = 31 * h + x.stands(m, 5);
    }
    for (int a = 0; a < x.count(0); a++) {
      for (int i = 0; i <= 4; i++) h = 31 * h + x.acrobat(a, i);
      for (int m : new int[] {0, 4, 10, 17, 23}) {
        for (int i = 0; i <= 3; i++) h = 31 * h + x.at(m, a, i);
      }
      h = 31 * h + x.come(a, 0);
      h = 31 * h + x.come(a, 1);
      h = 31 * h + x.was(a, 0);
      h = 31 * h + x.was(a, 1);
      h = 31 * h + x.ask(a);
    }
    for (int m : new int[] {5, 15}) {
      h = 31 * h + x.chance(5, m, 0);
      h = 31 * h + x.chance(5, m, 1);
    }
    int[] rest = {x.top(0), x.top(1), x.most(0), x.most(1), x.clumsy(), x.down(), x.swap(0), x.swap(1), x.swap(2),
        x.train(0), x.train(1), x.spare(-1), x.spare(0), x.never(), x.years(7, 6, 0), x.years(7, 6, 1)};
    for (int r : rest) h = 31 * h + r;
    Due.due("digest() of " + which, x.digest(), h);
  }

  private static void findingsLeaveItAlone(HumanPyramid x) {
    long before = x.digest();
    Due.due("lose(0)", x.lose(0), -11);
    Due.due("digest() behind a finding", x.digest(), before);
    x.sheet(0, 0, 5);
    Due.due("digest() behind a sheet", x.digest(), before);
    x.undo();
    x.type('4');
    Due.due("digest() behind a byte undone and told again", x.digest(), before);
  }
}
