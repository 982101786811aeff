/** Promise 33, copy: its boundary cases. */
final class Promise33CopyTest {
  public static void main(String[] args) {
    allAndNone();
    ofEveryForm();
    withinOne();
    theOthersStay();
    othersAreBad();
    nulls();
    stores();
    indexes();
    theFirstThatFits();
    Due.end();
  }

  private static void row(HumanPyramid x, int s, int form, int... want) {
    for (int i = 0; i < want.length; i++) {
      Due.due("get(" + s + ", " + form + ", " + i + ")", x.get(s, form, i), want[i]);
    }
  }

  private static void copy(HumanPyramid x, int s, int i, int t, int j, int n, int want) {
    Due.due("copy(" + s + ", " + i + ", " + t + ", " + j + ", " + n + ")", x.copy(s, i, t, j, n), want);
  }

  private static void allAndNone() {
    Due.sentence("33: n items, 0 to 60: 1");
    HumanPyramid x = new HumanPyramid();
    x.sheet(0, 2, 60);
    x.sheet(3, 2, 60);
    for (int i = 0; i < 60; i++) {
      x.put(0, 2, i, 100 + i);
    }
    copy(x, 0, 0, 3, 0, 60, 1);
    for (int i = 0; i < 60; i++) {
      Due.due("get(3, 2, " + i + ")", x.get(3, 2, i), 100 + i);
    }
    copy(x, 0, 59, 3, 0, 1, 1);
    Due.due("get(3, 2, 0)", x.get(3, 2, 0), 159);
    copy(x, 0, 0, 3, 59, 1, 1);
    Due.due("get(3, 2, 59)", x.get(3, 2, 59), 100);
    // none, from and to every place up to the end
    for (int i : new int[] {0, 30, 59, 60}) {
      copy(x, 0, i, 3, 60 - i, 0, 1);
    }
    copy(x, 0, 60, 3, 60, 0, 1);
    Due.due("get(3, 2, 1)", x.get(3, 2, 1), 101);
    Due.due("get(3, 2, 30)", x.get(3, 2, 30), 130);
    x.sheet(1, 2, 0);
    copy(x, 1, 0, 1, 0, 0, 1);
    copy(x, 1, 0, 3, 60, 0, 1);
    Due.due("count(8)", x.count(8), 0);
  }

  private static void ofEveryForm() {
    Due.sentence("33: items of SHEET s, of every FORM");
    int[][] items = {{-128, 127, 5}, {-32768, 32767, 5}, {Refused.LEAST, Refused.GREATEST, 5}};
    for (int form = 0; form < 3; form++) {
      HumanPyramid x = new HumanPyramid();
      Due.fill(x, 2, form, items[form]);
      x.sheet(1, form, 4);
      copy(x, 2, 0, 1, 1, 3, 1);
      row(x, 1, form, 0, items[form][0], items[form][1], items[form][2]);
      row(x, 2, form, items[form]);
    }
  }

  private static void withinOne() {
    Due.sentence("33: (perhaps s, as they were)");
    HumanPyramid x = new HumanPyramid();
    for (int by = 0; by <= 5; by++) {
      Due.fill(x, 0, 1, 1, 2, 3, 4, 5);
      copy(x, 0, 0, 0, by, 5 - by, 1);
      for (int i = 0; i < 5; i++) {
        Due.due("up by " + by + ": get(0, 1, " + i + ")", x.get(0, 1, i), i < by ? i + 1 : i - by + 1);
      }
      Due.fill(x, 0, 1, 1, 2, 3, 4, 5);
      copy(x, 0, by, 0, 0, 5 - by, 1);
      for (int i = 0; i < 5; i++) {
        Due.due("down by " + by + ": get(0, 1, " + i + ")", x.get(0, 1, i), i < 5 - by ? i + by + 1 : i + 1);
      }
    }
  }

  private static void theOthersStay() {
    Due.sentence("33: from j on, n items and no more");
    HumanPyramid x = new HumanPyramid();
    Due.fill(x, 0, 0, 1, 2, 3, 4, 5);
    Due.fill(x, 1, 0, 11, 12, 13, 14, 15);
    copy(x, 0, 1, 1, 2, 2, 1);
    row(x, 0, 0, 1, 2, 3, 4, 5);
    row(x, 1, 0, 11, 12, 2, 3, 15);
    // two SHEETS stay two
    x.put(0, 0, 1, 99);
    row(x, 1, 0, 11, 12, 2, 3, 15);
  }

  private static void othersAreBad() {
    Due.sentence("33: BAD: the SHEETS");
    for (int b : new int[] {-1, 4, Refused.LEAST, Refused.GREATEST}) {
      Refused.bad("copy(" + b + ", 0, 0, 0, 1)", x -> x.copy(b, 0, 0, 0, 1));
      Refused.bad("copy(0, 0, " + b + ", 0, 1)", x -> x.copy(0, 0, b, 0, 1));
    }
  }

  private static void nulls() {
    Due.sentence("33: NULL: s, t");
    Refused.in(State.NEW, "copy(0, 0, 1, 0, 0)", x -> x.copy(0, 0, 1, 0, 0), -11, 1);
    Refused.in(State.NEW, "copy(2, 0, 2, 0, 0)", x -> x.copy(2, 0, 2, 0, 0), -11, 1);
    Refused.in(State.SOME, "copy(3, 0, 0, 0, 1)", x -> x.copy(3, 0, 0, 0, 1), -11, 1);
    Refused.in(State.SOME, "copy(0, 0, 3, 0, 1)", x -> x.copy(0, 0, 3, 0, 1), -11, 1);
  }

  private static void stores() {
    Due.sentence("33: STORE: unlike FORMS");
    for (int s = 0; s < 3; s++) {
      for (int t = 0; t < 3; t++) {
        int from = s;
        int to = t;
        if (s != t) {
          Refused.in(State.SOME, "copy(" + s + ", 0, " + t + ", 0, 1)", x -> x.copy(from, 0, to, 0, 1), -14, 4);
          Refused.in(State.FULL, "copy(" + s + ", 0, " + t + ", 0, 0)", x -> x.copy(from, 0, to, 0, 0), -14, 4);
        }
      }
    }
  }

  private static void indexes() {
    Due.sentence("33: INDEX: below 0, not so many");
    int[][] few = {{-1, 0, 1}, {0, -1, 1}, {0, 0, -1}, {0, 0, 6}, {5, 0, 1}, {0, 5, 1}, {1, 0, 5}, {0, 1, 5}, {6, 0, 0},
        {0, 6, 0}, {-1, 0, 0}, {0, -1, 0}, {2, 2, -1}};
    for (int[] f : few) {
      Refused.in(State.SOME, "copy(0, " + f[0] + ", 0, " + f[1] + ", " + f[2] + ")", x -> x.copy(0, f[0], 0, f[1], f[2]), -12, 2);
    }
    int[][] far = {{0, 0, 61}, {1, 0, 60}, {0, 1, 60}, {60, 0, 1}, {0, 60, 1}, {61, 0, 0}, {0, 61, 0},
        {Refused.GREATEST, 0, 1}, {0, Refused.GREATEST, 1}, {1, 1, Refused.GREATEST},
        {Refused.GREATEST, Refused.GREATEST, Refused.GREATEST}, {Refused.GREATEST, 0, Refused.GREATEST},
        {Refused.LEAST, 0, 1}, {0, Refused.LEAST, 1}, {0, 0, Refused.LEAST}, {Refused.LEAST, Refused.LEAST, Refused.LEAST},
        {1, 1, Refused.LEAST}, {Refused.GREATEST, Refused.GREATEST, Refused.LEAST}};
    for (int[] f : far) {
      // SHEETS 0 and 3 are both of bytes, with 60 items
      Refused.in(State.FULL, "copy(0, " + f[0] + ", 3, " + f[1] + ", " + f[2] + ")", x -> x.copy(0, f[0], 3, f[1], f[2]), -12, 2);
    }
    // each SHEET has its own end
    HumanPyramid x = new HumanPyramid();
    x.sheet(0, 0, 3);
    x.sheet(1, 0, 5);
    copy(x, 0, 0, 1, 2, 3, 1);
    copy(x, 0, 0, 1, 3, 3, -12);
    copy(x, 1, 2, 0, 0, 3, 1);
    copy(x, 1, 0, 0, 0, 4, -12);
    copy(x, 0, 0, 1, 0, 4, -12);
    copy(x, 1, 3, 0, 0, 3, -12);
    copy(x, 0, 4, 1, 0, 0, -12);
    copy(x, 1, 0, 0, 4, 0, -12);
    x.sheet(2, 0, 0);
    copy(x, 2, 0, 1, 5, 0, 1);
    copy(x, 2, 0, 1, 0, 1, -12);
    copy(x, 1, 0, 2, 0, 1, -12);
  }

  private static void theFirstThatFits() {
    Due.sentence("33: BAD; NULL; STORE; INDEX: the first that fits");
    Refused.in(State.SOME, "copy(3, -1, 4, -1, -1)", x -> x.copy(3, -1, 4, -1, -1), -2, 0);
    Refused.in(State.SOME, "copy(-1, -1, 3, -1, -1)", x -> x.copy(-1, -1, 3, -1, -1), -2, 0);
    Refused.in(State.SOME, "copy(3, -1, 0, -1, -1)", x -> x.copy(3, -1, 0, -1, -1), -11, 1);
    Refused.in(State.SOME, "copy(0, -1, 3, -1, -1)", x -> x.copy(0, -1, 3, -1, -1), -11, 1);
    Refused.in(State.SOME, "copy(0, -1, 1, -1, -1)", x -> x.copy(0, -1, 1, -1, -1), -14, 4);
    Refused.in(State.SOME, "copy(0, 0, 2, 0, 61)", x -> x.copy(0, 0, 2, 0, 61), -14, 4);
  }
}
