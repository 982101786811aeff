/** Promise 22, seen: its boundary cases. */
final class Promise22SeenTest {
  public static void main(String[] args) {
    everyMomentPlaceAndAcrobat();
    eightAtMost();
    tenIsNobody();
    anyOfTen();
    othersAreBad();
    badAheadOfFull();
    Due.end();
  }

  private static void everyMomentPlaceAndAcrobat() {
    Due.sentence("22: a MOMENT 0 to 23, a PLACE 0 to 9, an ACROBAT 0 to 9 or 10");
    for (int m = 0; m < 24; m++) {
      for (int p = 0; p < 10; p++) {
        for (int a = 0; a <= 10; a++) {
          Due.due("seen(" + m + ", " + p + ", " + a + ")", new HumanPyramid().seen(m, p, a), 1);
        }
      }
    }
  }

  private static void eightAtMost() {
    Due.sentence("22: how many, 8 at most; FULL");
    HumanPyramid x = new HumanPyramid();
    for (int n = 1; n <= 8; n++) {
      // the same may be SEEN again
      Due.due("seen, the " + n + "th", x.seen(23, 9, 10), n);
      Due.due("count(7)", x.count(7), n);
    }
    Due.due("a ninth", x.seen(23, 9, 10), -4);
    Refused.in(State.FULL, "seen(0, 0, 0)", y -> y.seen(0, 0, 0), -4, 0);
    Refused.in(State.FULL, "seen(5, 5, 10)", y -> y.seen(5, 5, 10), -4, 0);
    Refused.in(State.FULL, "seen(23, 9, 9)", y -> y.seen(23, 9, 9), -4, 0);
    HumanPyramid z = State.FULL.made();
    Due.due("forget()", z.forget(), 8);
    Due.due("seen(0, 0, 0)", z.seen(0, 0, 0), 1);
  }

  private static void tenIsNobody() {
    Due.sentence("22: 10: nobody");
    HumanPyramid x = Due.told("s55b0");
    x.event(1, 9, 0);
    x.seen(0, 0, 10);
    Due.due("never(): nobody was there", x.never(), 1);
    x.seen(1, 0, 10);
    Due.due("never(): somebody was", x.never(), 0);
  }

  private static void anyOfTen() {
    Due.sentence("22: stood an ACROBAT, 0 to 9");
    for (int a = 0; a <= 10; a++) {
      HumanPyramid x = Due.told(State.TEN);
      x.event(1, 9, 0);
      for (int p = 0; p < 10; p++) {
        x.forget();
        x.seen(23, p, a);
        Due.due("seen(23, " + p + ", " + a + "): never()", x.never(), a == p ? 1 : 0);
      }
    }
    // one that there is not was nowhere
    HumanPyramid y = Due.told("s55a0");
    y.event(1, 9, 0);
    y.seen(5, 0, 1);
    Due.due("never()", y.never(), 0);
  }

  private static void othersAreBad() {
    Due.sentence("22: BAD");
    for (int b : new int[] {-1, 24, Refused.LEAST, Refused.GREATEST}) {
      Refused.bad("seen(" + b + ", 0, 0)", x -> x.seen(b, 0, 0));
    }
    for (int b : new int[] {-1, 10, Refused.LEAST, Refused.GREATEST}) {
      Refused.bad("seen(0, " + b + ", 0)", x -> x.seen(0, b, 0));
    }
    for (int b : new int[] {-1, 11, Refused.LEAST, Refused.GREATEST}) {
      Refused.bad("seen(0, 0, " + b + ")", x -> x.seen(0, 0, b));
    }
  }

  private static void badAheadOfFull() {
    Due.sentence("22: BAD ahead of FULL");
    HumanPyramid x = State.FULL.made();
    Due.due("seen(24, 0, 0)", x.seen(24, 0, 0), -2);
    Due.due("seen(0, 10, 0)", x.seen(0, 10, 0), -2);
    Due.due("seen(0, 0, 11)", x.seen(0, 0, 11), -2);
    Due.due("seen(23, 9, 10)", x.seen(23, 9, 10), -4);
  }
}
