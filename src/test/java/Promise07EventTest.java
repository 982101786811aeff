/** Promise 7, event: its boundary cases, and those of what EVENTS do. */
final class Promise07EventTest {
  public static void main(String[] args) {
    everyKindMomentAndNumber();
    eightAtMost();
    othersAreBad();
    badAheadOfFull();
    whoSneezesFallsAndAllOnTop();
    whoDoesNotStandDoesNotFall();
    sneezesInTheFirstAndTheLastMoment();
    applauseWhateverNumber();
    lessTiredBy3Or0();
    applauseOnlyForThoseWhoStand();
    heldInThatMomentAlone();
    asTold();
    Due.end();
  }

  private static void everyKindMomentAndNumber() {
    Due.sentence("7: a kind 0 to 2, a MOMENT 0 to 23, a number 0 to 9");
    for (int kind = 0; kind < 3; kind++) {
      for (int moment = 0; moment < 24; moment++) {
        for (int number = 0; number < 10; number++) {
          HumanPyramid x = new HumanPyramid();
          Due.due("event(" + kind + ", " + moment + ", " + number + ")", x.event(kind, moment, number), 1);
        }
      }
    }
  }

  private static void eightAtMost() {
    Due.sentence("7: how many, 8 at most; FULL");
    HumanPyramid x = new HumanPyramid();
    for (int n = 1; n <= 8; n++) {
      Due.due("event, the " + n + "th", x.event(2, 23, 9), n);
      Due.due("count(2)", x.count(2), n);
    }
    Due.due("a ninth", x.event(2, 23, 9), -4);
    Due.due("back()", x.back(), 7);
    Due.due("event", x.event(0, 0, 0), 8);
    Due.due("a ninth", x.event(0, 0, 0), -4);
    Refused.in(State.FULL, "event(0, 0, 0)", y -> y.event(0, 0, 0), -4, 0);
    Refused.in(State.FULL, "event(0, 20, 1)", y -> y.event(0, 20, 1), -4, 0);
    Refused.in(State.FULL, "event(2, 23, 9)", y -> y.event(2, 23, 9), -4, 0);
  }

  private static void othersAreBad() {
    Due.sentence("7: BAD");
    for (int b : new int[] {-1, 3, Refused.LEAST, Refused.GREATEST}) {
      Refused.bad("event(" + b + ", 0, 0)", x -> x.event(b, 0, 0));
    }
    for (int b : new int[] {-1, 24, Refused.LEAST, Refused.GREATEST}) {
      Refused.bad("event(0, " + b + ", 0)", x -> x.event(0, b, 0));
    }
    for (int b : new int[] {-1, 10, Refused.LEAST, Refused.GREATEST}) {
      Refused.bad("event(0, 5, " + b + ")", x -> x.event(0, 5, b));
      Refused.bad("event(1, 5, " + b + ")", x -> x.event(1, 5, b));
      Refused.bad("event(2, 5, " + b + ")", x -> x.event(2, 5, b));
    }
  }

  private static void badAheadOfFull() {
    Due.sentence("7: BAD ahead of FULL");
    HumanPyramid x = State.FULL.made();
    Due.due("event(3, 0, 0)", x.event(3, 0, 0), -2);
    Due.due("event(0, 24, 0)", x.event(0, 24, 0), -2);
    Due.due("event(0, 0, 10)", x.event(0, 0, 10), -2);
    Due.due("event(0, 0, 9)", x.event(0, 0, 9), -4);
  }

  private static void whoSneezesFallsAndAllOnTop() {
    Due.sentence("7: who SNEEZES FALLS, and all who stand on anybody who FALLS, and so on");
    String[] falling = {"0479", "145789", "256789", "3689", "479", "5789", "689", "79", "89", "9"};
    for (int a = 0; a < 10; a++) {
      HumanPyramid x = Due.told(State.TEN);
      x.event(0, 6, a);
      for (int p = 0; p < 10; p++) {
        boolean falls = falling[a].indexOf('0' + p) >= 0;
        Due.due(a + " sneezes in 6: stands(5, " + p + ")", x.stands(5, p), p);
        Due.due(a + " sneezes in 6: stands(6, " + p + ")", x.stands(6, p), falls ? -1 : p);
        Due.due(a + " sneezes in 6: at(6, " + p + ", 0)", x.at(6, p, 0), falls ? 3 : 2);
        Due.due(a + " sneezes in 6: at(8, " + p + ", 0)", x.at(8, p, 0), falls ? 3 : 2);
        Due.due(a + " sneezes in 6: at(9, " + p + ", 0)", x.at(9, p, 0), 2);
        Due.due(a + " sneezes in 6: at(9, " + p + ", 3)", x.at(9, p, 3), falls ? 1 : 0);
      }
      Due.due(a + " sneezes in 6: sum(1)", x.sum(1), falling[a].length());
    }
  }

  private static void whoDoesNotStandDoesNotFall() {
    Due.sentence("7: who SNEEZES FALLS, if one stands");
    HumanPyramid x = Due.told("s55a0;s55f1;s55a9");
    x.event(0, 4, 1);
    x.event(0, 5, 1);
    x.event(0, 9, 2);
    x.event(0, 9, 3);
    x.event(0, 9, 9);
    Due.due("sum(1): not there yet, comes in that MOMENT, cannot climb, no such ACROBAT", x.sum(1), 0);
    Due.due("at(4, 1, 0)", x.at(4, 1, 0), 0);
    Due.due("at(5, 1, 0)", x.at(5, 1, 0), 2);
    Due.due("at(9, 2, 0)", x.at(9, 2, 0), 1);
    x.event(0, 6, 0);
    x.event(0, 6, 0);
    x.event(0, 8, 0);
    Due.due("sum(1): twice in a MOMENT, and again when one lies", x.sum(1), 1);
    Due.due("at(8, 0, 0)", x.at(8, 0, 0), 3);
    Due.due("at(9, 0, 0)", x.at(9, 0, 0), 2);
  }

  private static void sneezesInTheFirstAndTheLastMoment() {
    Due.sentence("7: in that MOMENT, 0 to 23");
    for (int m = 0; m < 24; m++) {
      HumanPyramid x = Due.told("s55a0");
      x.event(0, m, 0);
      // in MOMENT 0 nobody stands yet when the EVENTS are done
      Due.due("a sneeze in " + m + ": sum(1)", x.sum(1), m == 0 ? 0 : 1);
      Due.due("a sneeze in " + m + ": sum(0)", x.sum(0), m == 0 ? 24 : 24 - Math.min(3, 24 - m));
      Due.due("a sneeze in " + m + ": stands", x.stands(m, 0), m == 0 ? 0 : -1);
    }
  }

  private static void applauseWhateverNumber() {
    Due.sentence("7: APPLAUSE (whatever number is told)");
    for (int number = 0; number < 10; number++) {
      HumanPyramid x = Due.told("t59a0;t59a3");
      Due.due("event(1, 6, " + number + ")", x.event(1, 6, number), 1);
      for (int a = 0; a < 2; a++) {
        Due.due("at(5, " + a + ", 2)", x.at(5, a, 2), 6);
        Due.due("at(6, " + a + ", 2)", x.at(6, a, 2), 4);
        Due.due("at(7, " + a + ", 2)", x.at(7, a, 2), 5);
      }
      Due.due("sum(1)", x.sum(1), 0);
    }
  }

  private static void lessTiredBy3Or0() {
    Due.sentence("7: less TIRED by 3, 0 at least");
    // behind MOMENT m - 1 one is TIRED by m; in m by 1 more than what APPLAUSE leaves
    int[] want = {1, 1, 1, 1, 2, 3};
    for (int m = 0; m < want.length; m++) {
      HumanPyramid x = Due.told("t59a0");
      x.event(1, m, 0);
      Due.due("applause in " + m + ": at(m, 0, 2)", x.at(m, 0, 2), want[m]);
    }
    HumanPyramid x = Due.told("t59a0");
    x.event(1, 23, 0);
    Due.due("applause in 23: at(23, 0, 2)", x.at(23, 0, 2), 21);
    // two in one MOMENT: 5 - 3 - 3 is 0, not -1
    HumanPyramid y = Due.told("t59a0");
    y.event(1, 5, 0);
    y.event(1, 5, 9);
    Due.due("twice in 5: at(5, 0, 2)", y.at(5, 0, 2), 1);
    HumanPyramid z = Due.told("t59a0");
    z.event(1, 7, 0);
    z.event(1, 7, 9);
    Due.due("twice in 7: at(7, 0, 2)", z.at(7, 0, 2), 2);
  }

  private static void applauseOnlyForThoseWhoStand() {
    Due.sentence("7: by APPLAUSE all who stand are less TIRED");
    // FALLS in 4, lies in 4 to 6, climbs in 7: APPLAUSE in 5 and 7 leaves one as one is, not TIRED
    HumanPyramid x = Due.told("t51a0");
    x.event(1, 5, 0);
    x.event(1, 7, 0);
    int[] want = {1, 2, 3, 4, 0, 0, 0, 1, 2, 3, 4, 0};
    for (int m = 0; m < want.length; m++) {
      Due.due("at(" + m + ", 0, 2)", x.at(m, 0, 2), want[m]);
    }
  }

  private static void heldInThatMomentAlone() {
    Due.sentence("7: that ACROBAT is HELD back, in that MOMENT");
    for (int m = 0; m < 24; m++) {
      HumanPyramid x = Due.told("s55" + (char) ('a' + m) + "0;s55" + (char) ('a' + m) + "1");
      x.event(2, m, 0);
      Due.due("held in " + m + ": at(m, 0, 0)", x.at(m, 0, 0), 1);
      Due.due("held in " + m + ": at(m, 1, 0)", x.at(m, 1, 0), 2);
      Due.due("held in " + m + ": sum(0)", x.sum(0), 24 - m + 23 - m);
    }
    HumanPyramid x = Due.told("s55a0");
    x.event(2, 7, 0);
    Due.due("one who stands: sum(0)", x.sum(0), 24);
    // HELD when one could climb again: FALLS in 4, lies in 4 to 6, is HELD in 7
    HumanPyramid y = Due.told("s55a0");
    y.event(0, 4, 0);
    y.event(2, 7, 0);
    Due.due("at(6, 0, 0)", y.at(6, 0, 0), 3);
    Due.due("at(7, 0, 0)", y.at(7, 0, 0), 1);
    Due.due("at(8, 0, 0)", y.at(8, 0, 0), 2);
    // who is HELD is not TIRED meanwhile, and of numbers that no ACROBAT has nothing comes
    HumanPyramid z = Due.told("t59a0");
    z.event(2, 0, 0);
    z.event(2, 1, 1);
    z.event(2, 1, 9);
    Due.due("at(0, 0, 2)", z.at(0, 0, 2), 0);
    Due.due("at(1, 0, 2)", z.at(1, 0, 2), 1);
  }

  private static void asTold() {
    Due.sentence("7: first its EVENTS are done, as told");
    // whoever FALLS is not TIRED; who stands on is helped, whether the sneeze or the APPLAUSE is told first
    for (int first = 0; first < 2; first++) {
      HumanPyramid x = Due.told("t59a0;t59a3");
      x.event(first, 6, 0);
      x.event(1 - first, 6, 0);
      Due.due("at(6, 0, 2)", x.at(6, 0, 2), 0);
      Due.due("at(6, 0, 0)", x.at(6, 0, 0), 3);
      Due.due("at(6, 1, 2)", x.at(6, 1, 2), 4);
      Due.due("sum(1)", x.sum(1), 1);
    }
    // EVENTS come ahead of climbing: who SNEEZES in 3 brings down who stands on one, and nobody climbs there in 3
    HumanPyramid y = Due.told("c19a0;c19a1;c19d4");
    y.event(0, 3, 1);
    Due.due("at(3, 2, 0)", y.at(3, 2, 0), 1);
    Due.due("at(3, 2, 3)", y.at(3, 2, 3), 0);
    Due.due("at(6, 2, 0)", y.at(6, 2, 0), 2);
    Due.due("sum(1)", y.sum(1), 1);
    // told in whatever order, each in its own MOMENT
    HumanPyramid z = Due.told("s55a0");
    z.event(0, 20, 0);
    z.event(0, 1, 0);
    Due.due("sum(1)", z.sum(1), 2);
    Due.due("at(1, 0, 3)", z.at(1, 0, 3), 1);
    Due.due("at(19, 0, 3)", z.at(19, 0, 3), 1);
    Due.due("at(20, 0, 3)", z.at(20, 0, 3), 2);
  }
}
