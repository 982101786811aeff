/** Promise 29, sheet: its boundary cases. */
final class Promise29SheetTest {
  public static void main(String[] args) {
    everySheetFormAndSize();
    zeroAtFirst();
    aNewRowInPlaceOfAnOldOne();
    otherSheetsStay();
    othersAreBad();
    belowZero();
    badAheadOfSize();
    Due.end();
  }

  private static void everySheetFormAndSize() {
    Due.sentence("29: SHEETS 0 to 3, FORMS 0 to 2, 0 to 60 items: n");
    for (int s = 0; s < 4; s++) {
      for (int form = 0; form < 3; form++) {
        for (int n = 0; n <= 60; n++) {
          HumanPyramid x = new HumanPyramid();
          Due.due("sheet(" + s + ", " + form + ", " + n + ")", x.sheet(s, form, n), n);
          Due.due("lose(" + s + ")", x.lose(s), n);
        }
      }
    }
  }

  private static void zeroAtFirst() {
    Due.sentence("29: items, 0 at first");
    for (int form = 0; form < 3; form++) {
      HumanPyramid x = new HumanPyramid();
      x.sheet(1, form, 60);
      for (int i = 0; i < 60; i++) {
        Due.due("get(1, " + form + ", " + i + ")", x.get(1, form, i), 0);
        x.put(1, form, i, -1);
      }
      // also of one that was made, filled and made anew, or lost in between
      x.sheet(1, form, 60);
      for (int i = 0; i < 60; i++) {
        Due.due("get(1, " + form + ", " + i + ") anew", x.get(1, form, i), 0);
        x.put(1, form, i, -1);
      }
      x.lose(1);
      x.sheet(1, form, 60);
      for (int i = 0; i < 60; i++) {
        Due.due("get(1, " + form + ", " + i + ") once more", x.get(1, form, i), 0);
      }
      Due.due("count(8)", x.count(8), 0);
    }
  }

  private static void aNewRowInPlaceOfAnOldOne() {
    Due.sentence("29: a SHEET is a new row");
    HumanPyramid x = new HumanPyramid();
    Due.fill(x, 0, 2, 1, 2, 3, 4, 5);
    Due.due("sheet(0, 0, 2)", x.sheet(0, 0, 2), 2);
    Due.due("get(0, 0, 1)", x.get(0, 0, 1), 0);
    Due.due("count(8)", x.count(8), 0);
    Due.due("get(0, 0, 2)", x.get(0, 0, 2), Refused.LEAST);
    Due.due("count(8)", x.count(8), 2);
    Due.due("get(0, 2, 0)", x.get(0, 2, 0), Refused.LEAST);
    Due.due("count(8)", x.count(8), 3);
    // longer again: what was there is not
    Due.due("sheet(0, 2, 5)", x.sheet(0, 2, 5), 5);
    for (int i = 0; i < 5; i++) {
      Due.due("get(0, 2, " + i + ")", x.get(0, 2, i), 0);
    }
    Due.due("sheet(0, 2, 0)", x.sheet(0, 2, 0), 0);
    Due.due("get(0, 2, 0)", x.get(0, 2, 0), Refused.LEAST);
    Due.due("count(8)", x.count(8), 2);
    Due.due("an empty one is not LOST: lose(0)", x.lose(0), 0);
  }

  private static void otherSheetsStay() {
    Due.sentence("29: the other SHEETS stay");
    for (int s = 0; s < 4; s++) {
      HumanPyramid x = State.FULL.made();
      x.sheet(s, 1, 7);
      for (int other = 0; other < 4; other++) {
        if (other != s) {
          Due.due("get(" + other + ", " + other % 3 + ", 59)", x.get(other, other % 3, 59), -other - 1);
          Due.due("lose(" + other + ")", x.lose(other), 60);
        }
      }
      Due.due("lose(" + s + ")", x.lose(s), 7);
    }
  }

  private static void othersAreBad() {
    Due.sentence("29: BAD: SHEET, FORM, above 60");
    for (int b : new int[] {-1, 4, Refused.LEAST, Refused.GREATEST}) {
      Refused.bad("sheet(" + b + ", 0, 5)", x -> x.sheet(b, 0, 5));
    }
    for (int b : new int[] {-1, 3, Refused.LEAST, Refused.GREATEST}) {
      Refused.bad("sheet(0, " + b + ", 5)", x -> x.sheet(0, b, 5));
    }
    for (int b : new int[] {61, Refused.GREATEST}) {
      Refused.bad("sheet(0, 0, " + b + ")", x -> x.sheet(0, 0, b));
    }
  }

  private static void belowZero() {
    Due.sentence("29: SIZE: below 0");
    for (State state : State.values()) {
      for (int n : new int[] {-1, -60, Refused.LEAST}) {
        Refused.in(state, "sheet(0, 1, " + n + ")", x -> x.sheet(0, 1, n), -15, 5);
      }
      Refused.in(state, "sheet(3, 2, -1)", x -> x.sheet(3, 2, -1), -15, 5);
    }
  }

  private static void badAheadOfSize() {
    Due.sentence("29: BAD ahead of SIZE");
    HumanPyramid x = State.SOME.made();
    Due.due("sheet(-1, 0, -1)", x.sheet(-1, 0, -1), -2);
    Due.due("sheet(4, 0, -1)", x.sheet(4, 0, -1), -2);
    Due.due("sheet(0, -1, -1)", x.sheet(0, -1, -1), -2);
    Due.due("sheet(0, 3, -1)", x.sheet(0, 3, -1), -2);
    Due.due("count(8)", x.count(8), 4);
  }
}
