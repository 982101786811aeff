/** Promise 25, was: its boundary cases. */
final class Promise25WasTest {
  public static void main(String[] args) {
    nothingSeen();
    noneFits();
    theLeastAndTheGreatestStrength();
    theLeastAndTheGreatestWeight();
    inPlaceOfOnesOwn();
    theFirstAndTheTenth();
    othersAreBad();
    Due.end();
  }

  private static void nothingSeen() {
    Due.sentence("25: 1 to 9, bit 1 on: all");
    HumanPyramid x = Due.told(State.TEN);
    for (int a = 0; a < 10; a++) {
      Due.due("was(" + a + ", 0)", x.was(a, 0), 1022);
      Due.due("was(" + a + ", 1)", x.was(a, 1), 1022);
    }
  }

  private static void noneFits() {
    Due.sentence("25: none");
    HumanPyramid x = Due.told("s55a0");
    x.seen(0, 0, 10);
    Due.due("was(0, 0)", x.was(0, 0), 0);
    Due.due("was(0, 1)", x.was(0, 1), 0);
    HumanPyramid y = Due.told("s55a0");
    y.seen(0, 0, 1);
    Due.due("was(0, 0): one that there is not", y.was(0, 0), 0);
  }

  private static void theLeastAndTheGreatestStrength() {
    Due.sentence("25: STRENGTHS 1 to 9");
    // a trembling one alone FALLS in MOMENT 4 s at first
    for (int s = 1; s <= 5; s++) {
      HumanPyramid x = Due.told("t55a0");
      x.seen(4 * s - 1, 0, 0);
      x.seen(4 * s, 0, 10);
      Due.due("FELL in " + 4 * s + ": was(0, 0)", x.was(0, 0), 1 << s);
    }
    // 145 eighths at PLACE 1 are too much for 9 too, 144 are not
    HumanPyramid y = Due.told(State.ten("s11a1", "c99a4", "c99a5", "c99a7", "c99a8", "c69a9"));
    y.seen(0, 1, 1);
    Due.due("144: was(1, 0)", y.was(1, 0), 1 << 9);
    HumanPyramid z = Due.told(State.ten("s11a1", "c79a4", "c99a5", "c99a7", "c99a8", "c99a9"));
    z.seen(0, 1, 1);
    Due.due("145: was(1, 0)", z.was(1, 0), 0);
    z.forget();
    z.seen(0, 1, 10);
    Due.due("145: was(1, 0)", z.was(1, 0), 1022);
  }

  private static void theLeastAndTheGreatestWeight() {
    Due.sentence("25: WEIGHTS 1 to 9");
    // on two of STRENGTH 2 one of WEIGHT 8 is borne, one of 9 is not; on two of 1 one of 4, not one of 5
    for (int s = 1; s <= 2; s++) {
      HumanPyramid x = Due.told("s1" + s + "a0;s1" + s + "a1;s51a4");
      x.seen(0, 4, 2);
      Due.due("of " + s + ", borne: was(2, 1)", x.was(2, 1), (1 << 4 * s + 1) - 2);
      x.forget();
      x.seen(0, 4, 10);
      Due.due("of " + s + ", not borne: was(2, 1)", x.was(2, 1), 1022 - ((1 << 4 * s + 1) - 2));
    }
    // WEIGHT 1 tires a steady one by nothing (4 eighths), 2 and more by 1 and more
    HumanPyramid y = Due.told("s11a0;s11a1;s91a4");
    y.seen(23, 4, 2);
    y.seen(22, 4, 2);
    y.seen(21, 4, 2);
    y.seen(20, 4, 2);
    y.seen(4, 4, 2);
    Due.due("it stood all the time: was(2, 1)", y.was(2, 1), 1 << 1);
  }

  private static void inPlaceOfOnesOwn() {
    Due.sentence("25: in place of one's own, whatever that is");
    for (int s = 1; s <= 9; s++) {
      HumanPyramid x = Due.told("t" + s + s + "a0");
      x.seen(4, 0, 10);
      Due.due("of " + s + ": was(0, 0)", x.was(0, 0), 2);
      // one's own is still what counts elsewhere
      Due.due("of " + s + ": acrobat(0, 1)", x.acrobat(0, 1), s);
      Due.due("of " + s + ": acrobat(0, 2)", x.acrobat(0, 2), s);
      Due.due("of " + s + ": at(4, 0, 0)", x.at(4, 0, 0), s == 1 ? 3 : 2);
      Due.due("of " + s + ": was(0, 1)", x.was(0, 1), s == 1 ? 1022 : 0);
    }
  }

  private static void theFirstAndTheTenth() {
    Due.sentence("25: of an ACROBAT, 0 to 9");
    for (int a = 0; a < 10; a++) {
      HumanPyramid x = Due.told(State.ten("t19a" + a));
      x.seen(0, a, a);
      // in MOMENT 0 one bears 17 eighths at most: of 1 those at PLACES 1 and 2 give way
      Due.due("was(" + a + ", 0)", x.was(a, 0), a == 1 || a == 2 ? 1020 : 1022);
      x.forget();
      x.seen(0, a, a == 0 ? 1 : 0);
      Due.due("was(" + a + ", 0)", x.was(a, 0), 0);
    }
  }

  private static void othersAreBad() {
    Due.sentence("25: BAD");
    for (int b : new int[] {-1, 10, Refused.LEAST, Refused.GREATEST}) {
      Refused.bad("was(" + b + ", 0)", x -> x.was(b, 0));
      Refused.bad("was(" + b + ", 1)", x -> x.was(b, 1));
    }
    for (int b : new int[] {-1, 2, Refused.LEAST, Refused.GREATEST}) {
      Refused.bad("was(0, " + b + ")", x -> x.was(0, b));
    }
    for (int n = 0; n <= 10; n++) {
      HumanPyramid x = Due.told(n == 0 ? "" : State.TEN.substring(0, 6 * n - 1));
      Due.due("was(" + n + ", 0) of " + n, x.was(n, 0), -2);
      Due.due("was(" + (n - 1) + ", 1) of " + n, x.was(n - 1, 1), n == 0 ? -2 : 1022);
    }
    Due.due("was(0, 0) with a FAULT", Due.told("s55a0;").was(0, 0), -2);
  }
}
