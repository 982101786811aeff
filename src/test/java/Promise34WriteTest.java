/** Promise 34, write: its boundary cases. */
final class Promise34WriteTest {
  public static void main(String[] args) {
    asManyAsThereAreItems();
    tenAtMost();
    everyMoment();
    noneAsMinusOne();
    nothingElse();
    othersAreBad();
    nulls();
    Due.end();
  }

  private static void asManyAsThereAreItems() {
    Due.sentence("34: as many as there are items: how many");
    for (int n = 0; n <= 12; n++) {
      HumanPyramid x = Due.told(State.TEN);
      x.sheet(0, 0, n);
      Due.due("write(5, 0) of " + n + " items", x.write(5, 0), Math.min(10, n));
      for (int i = 0; i < n; i++) {
        Due.due("get(0, 0, " + i + ") of " + n, x.get(0, 0, i), i < 10 ? i : 0);
      }
      Due.due("lose(0)", x.lose(0), n);
    }
  }

  private static void tenAtMost() {
    Due.sentence("34: 10 at most");
    for (int s = 0; s < 4; s++) {
      HumanPyramid x = Due.told(State.TEN);
      x.sheet(s, 2, 60);
      for (int i = 0; i < 60; i++) {
        x.put(s, 2, i, 1000 + i);
      }
      Due.due("write(0, " + s + ")", x.write(0, s), 10);
      for (int i = 0; i < 60; i++) {
        Due.due("get(" + s + ", 2, " + i + ")", x.get(s, 2, i), i < 10 ? i : 1000 + i);
      }
    }
  }

  private static void everyMoment() {
    Due.sentence("34: who stands at PLACES 0 on behind a MOMENT, 0 to 23");
    HumanPyramid x = Due.told("c19a3;c19b2;c19x6;t51a0");
    x.sheet(1, 1, 10);
    for (int m = 0; m < 24; m++) {
      Due.due("write(" + m + ", 1)", x.write(m, 1), 10);
      int[] want = {m % 7 < 4 ? 3 : -1, -1, m < 1 ? -1 : 1, 0, -1, -1, m < 23 ? -1 : 2, -1, -1, -1};
      for (int p = 0; p < 10; p++) {
        Due.due("behind " + m + ": get(1, 1, " + p + ")", x.get(1, 1, p), want[p]);
      }
    }
  }

  private static void noneAsMinusOne() {
    Due.sentence("34: (NONE), in every FORM");
    for (int form = 0; form < 3; form++) {
      HumanPyramid x = new HumanPyramid();
      x.sheet(2, form, 11);
      Due.due("write(23, 2)", x.write(23, 2), 10);
      for (int i = 0; i < 11; i++) {
        Due.due("get(2, " + form + ", " + i + ")", x.get(2, form, i), i < 10 ? -1 : 0);
      }
    }
  }

  private static void nothingElse() {
    Due.sentence("34: it comes to that SHEET, and nothing else changes");
    HumanPyramid x = State.FULL.made();
    long digest = x.digest();
    x.write(3, 1);
    Due.due("digest()", x.digest(), digest);
    Due.due("count(8)", x.count(8), 3);
    for (int s = 0; s < 4; s += 2) {
      Due.due("get(" + s + ", " + s + ", 0)", x.get(s, s, 0), s + 1);
    }
    Due.due("get(1, 1, 0)", x.get(1, 1, 0), 0);
    Due.due("get(1, 1, 59)", x.get(1, 1, 59), -2);
  }

  private static void othersAreBad() {
    Due.sentence("34: BAD");
    for (int b : new int[] {-1, 24, Refused.LEAST, Refused.GREATEST}) {
      Refused.bad("write(" + b + ", 0)", x -> x.write(b, 0));
      // ahead of NULL
      Refused.in(State.NEW, "write(" + b + ", 3)", x -> x.write(b, 3), -2, 0);
    }
    for (int b : new int[] {-1, 4, Refused.LEAST, Refused.GREATEST}) {
      Refused.bad("write(0, " + b + ")", x -> x.write(0, b));
    }
  }

  private static void nulls() {
    Due.sentence("34: NULL: the SHEET is LOST");
    for (int s = 0; s < 4; s++) {
      int lost = s;
      Refused.in(State.NEW, "write(0, " + s + ")", x -> x.write(0, lost), -11, 1);
    }
    Refused.in(State.SOME, "write(23, 3)", x -> x.write(23, 3), -11, 1);
  }
}
