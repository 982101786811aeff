/** Promise 19, come: its boundary cases. */
final class Promise19ComeTest {
  public static void main(String[] args) {
    ofLikeOnesTheLeast();
    everyMoment();
    inPlaceOfOnesOwn();
    theFirstAndTheTenth();
    ofWhatIsToldAtTheTime();
    nothingIsChanged();
    othersAreBad();
    Due.end();
  }

  private static void come(String what, HumanPyramid x, int a, int which, int much) {
    Due.due(what + ": come(" + a + ", 0)", x.come(a, 0), which);
    Due.due(what + ": come(" + a + ", 1)", x.come(a, 1), much);
  }

  private static void ofLikeOnesTheLeast() {
    Due.sentence("19: of like ones the least");
    come("who can never climb", Due.told("s11m4"), 0, 0, 0);
    HumanPyramid x = Due.told("s55a0");
    x.event(2, 0, 0);
    come("held in 0", x, 0, 0, 23);
    x.event(2, 1, 0);
    come("held in 0 and 1", x, 0, 0, 22);
  }

  private static void everyMoment() {
    Due.sentence("19: the MOMENT, 0 to 23, so that STANDING is most");
    come("the sooner the better", Due.told("s55x0"), 0, 0, 24);
    // a sneeze brings down who came ahead of it: in 1 to 3 it costs more than what one has by then
    int[] which = {0, 1, 2, 0, 0};
    int[] much = {24, 23, 22, 21, 21};
    for (int m = 0; m < which.length; m++) {
      HumanPyramid x = Due.told("s55a0");
      x.event(0, m, 0);
      come("a sneeze in " + m, x, 0, which[m], much[m]);
    }
    // the later the better: when 2 comes all FALL, and again whenever they climb
    come("who is too heavy", Due.told("s11a0;s11a1;s99a4"), 2, 23, 46);
    HumanPyramid y = Due.told("s11a0;s11a1;s99a4");
    y.event(2, 23, 2);
    come("who is too heavy, and held in 23", y, 2, 23, 48);
    y.event(2, 22, 2);
    come("who is too heavy, and held in 22 and 23", y, 2, 22, 48);
  }

  private static void inPlaceOfOnesOwn() {
    Due.sentence("19: in place of one's own, whatever that is");
    for (int m = 0; m < 24; m++) {
      HumanPyramid x = Due.told("s55" + (char) ('a' + m) + "0;s55b1");
      come("0, there from " + m, x, 0, 0, 47);
      come("1, beside one from " + m, x, 1, 0, 48 - m);
    }
  }

  private static void theFirstAndTheTenth() {
    Due.sentence("19: of an ACROBAT, 0 to 9");
    for (int a = 0; a < 10; a++) {
      HumanPyramid x = Due.told(State.ten("c19x" + a));
      come("of ten", x, a, 0, 240);
    }
    // each of the others counts, with all that was told of one: on top stands one who trembles
    for (int a = 0; a < 10; a++) {
      come("of ten", Due.told(State.ten("t19a9")), a, 0, 240);
      // who FALLS in 20 and lies until 22: the later one comes, the fewer are left
      come("of ten", Due.told(State.ten("t15a9")), a, 0, 237);
    }
  }

  private static void ofWhatIsToldAtTheTime() {
    Due.sentence("19: of the ACROBATS and EVENTS there are");
    for (int a = 0; a < 10; a++) {
      HumanPyramid x = Due.told(State.TEN);
      come("ten", x, a, 0, 240);
      x.event(2, 0, 9);
      come("with 9 held in 0", x, a, 0, 239);
      x.back();
      come("without", x, a, 0, 240);
      x.undo();
      Due.due("come(" + a + ", 0) with a FAULT", x.come(a, 0), -2);
    }
  }

  private static void nothingIsChanged() {
    Due.sentence("19: what had better be is not done");
    HumanPyramid x = Due.told("s55k0;s55d1");
    come("better", x, 0, 0, 45);
    come("better", x, 1, 0, 38);
    Due.due("acrobat(0, 3)", x.acrobat(0, 3), 10);
    Due.due("acrobat(1, 3)", x.acrobat(1, 3), 3);
    Due.due("sum(0)", x.sum(0), 14 + 21);
  }

  private static void othersAreBad() {
    Due.sentence("19: BAD");
    for (int b : new int[] {-1, 10, Refused.LEAST, Refused.GREATEST}) {
      Refused.bad("come(" + b + ", 0)", x -> x.come(b, 0));
      Refused.bad("come(" + b + ", 1)", x -> x.come(b, 1));
    }
    for (int b : new int[] {-1, 2, Refused.LEAST, Refused.GREATEST}) {
      Refused.bad("come(0, " + b + ")", x -> x.come(0, b));
    }
    for (int n = 0; n <= 10; n++) {
      HumanPyramid x = Due.told(n == 0 ? "" : State.TEN.substring(0, 6 * n - 1));
      Due.due("come(" + n + ", 0) of " + n, x.come(n, 0), -2);
      Due.due("come(" + (n - 1) + ", 0) of " + n, x.come(n - 1, 0), n == 0 ? -2 : 0);
    }
    Due.due("come(0, 0) with a FAULT", Due.told("s55a0;").come(0, 0), -2);
  }
}
