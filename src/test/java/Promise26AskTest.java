/** Promise 26, ask: its boundary cases. */
final class Promise26AskTest {
  public static void main(String[] args) {
    ofLikeOnesTheLeast();
    noneFits();
    theLastMoment();
    theGreatestNumberIsLeast();
    onlyThoseThatFit();
    placesOfAll();
    othersAreBad();
    Due.end();
  }

  private static void ofLikeOnesTheLeast() {
    Due.sentence("26: of like ones the least");
    HumanPyramid x = Due.told(State.TEN.replace('c', 's'));
    Due.due("whose STRENGTH does not matter: ask(9)", x.ask(9), 0);
    Due.due("who can never climb: ask(0)", Due.told("s11a4").ask(0), 0);
    HumanPyramid y = Due.told("t51a0");
    y.seen(4, 0, 10);
    Due.due("one STRENGTH alone: ask(0)", y.ask(0), 0);
  }

  private static void noneFits() {
    Due.sentence("26: none of STRENGTHS: the least MOMENT");
    HumanPyramid x = Due.told("t51a0");
    x.seen(0, 0, 10);
    Due.due("was(0, 0)", x.was(0, 0), 0);
    Due.due("ask(0)", x.ask(0), 0);
  }

  private static void theLastMoment() {
    Due.sentence("26: the MOMENT, 0 to 23");
    // from m on one of STRENGTH 1 FALLS in m + 4 at first; when nothing else tells, that is the MOMENT to ask
    for (int m = 16; m < 24; m++) {
      HumanPyramid x = Due.told("t51" + (char) ('a' + m) + "0");
      Due.due("from " + m + " on: ask(0)", x.ask(0), m + 4 < 24 ? m + 4 : 0);
    }
  }

  private static void theGreatestNumberIsLeast() {
    Due.sentence("26: the greatest number by which the like PLACES are taken is least");
    // behind 20 those of 1, 2 and 5 lie and the other six stand; behind every other MOMENT seven or more are alike
    Due.due("ask(0)", Due.told("t51a0").ask(0), 20);
    // 0 sways with its own tiring and with the load that others are
    HumanPyramid x = Due.told("s53a0;t54a1;c65b4");
    x.event(0, 3, 0);
    x.event(1, 5, 0);
    Due.due("ask(0)", x.ask(0), 21);
    Due.due("ask(1)", x.ask(1), 10);
    Due.due("ask(2)", x.ask(2), 0);
  }

  private static void onlyThoseThatFit() {
    Due.sentence("26: of those of STRENGTHS");
    HumanPyramid x = Due.told("t51a0");
    x.seen(20, 0, 10);
    Due.due("was(0, 0)", x.was(0, 0), 1 << 1 | 1 << 2 | 1 << 5);
    // of 1 one lies in 4 to 6, 11 to 13, 18 to 20, of 2 in 8 to 10, 19 to 21, of 5 in 20 on: two are alike at least
    Due.due("ask(0)", x.ask(0), 4);
    x.seen(4, 0, 0);
    Due.due("ask(0): of 2 and 5", x.ask(0), 8);
  }

  private static void placesOfAll() {
    Due.sentence("26: the like PLACES are taken, those of all");
    // 0 stands on alone whatever its STRENGTH; whether the one on top is borne tells it
    HumanPyramid x = Due.told("s11a0;s19a1;s93a4");
    Due.due("was(0, 0)", x.was(0, 0), 1022);
    // 36 eighths: of 1 and 2 one FALLS in 0, of others by being TIRED by 4 in each MOMENT
    Due.due("stands(0, 4)", x.stands(0, 4), -1);
    Due.due("ask(0)", x.ask(0), leastOfAll("s19a1;s93a4"));
  }

  /** The same by asking objects told with each STRENGTH, all PLACES at once. */
  private static int leastOfAll(String others) {
    int best = -1;
    int least = 10;
    for (int m = 0; m < 24; m++) {
      int[] alike = new int[1024];
      int greatest = 0;
      for (int s = 1; s <= 9; s++) {
        HumanPyramid x = Due.told("s1" + s + "a0;" + others);
        int taken = 0;
        for (int p = 0; p < 10; p++) {
          taken |= x.stands(m, p) == -1 ? 0 : 1 << p;
        }
        alike[taken]++;
        greatest = Math.max(greatest, alike[taken]);
      }
      if (greatest < least) {
        best = m;
        least = greatest;
      }
    }
    return best;
  }

  private static void othersAreBad() {
    Due.sentence("26: BAD");
    for (int b : new int[] {-1, 10, Refused.LEAST, Refused.GREATEST}) {
      Refused.bad("ask(" + b + ")", x -> x.ask(b));
    }
    for (int n = 0; n <= 10; n++) {
      HumanPyramid x = Due.told(n == 0 ? "" : State.TEN.substring(0, 6 * n - 1));
      Due.due("ask(" + n + ") of " + n, x.ask(n), -2);
      Due.holds("ask(" + (n - 1) + ") of " + n + " is a MOMENT", n == 0 ? x.ask(-1) == -2 : x.ask(n - 1) >= 0);
    }
    Due.due("ask(0) with a FAULT", Due.told("s55a0;").ask(0), -2);
  }
}
