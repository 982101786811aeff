import java.math.BigInteger;

/** Promise 28, years: its boundary cases. */
final class Promise28YearsTest {
  private static final BigInteger TWO_TO_32 = BigInteger.ONE.shiftLeft(32);

  public static void main(String[] args) {
    asIfTold();
    noneToEight();
    inPlaceOfThoseTold();
    noAcrobats();
    nothingIsTold();
    othersAreBad();
    Due.end();
  }

  private static int[] seeds() {
    int[] seeds = new int[40];
    int[] edges = {0, 1, -1, 7, Refused.LEAST, Refused.GREATEST, Refused.LEAST + 1, Refused.GREATEST - 1, 65535, 65536,
        -65536, 1 << 30, -(1 << 30), 12345, -12345, 1103515245, -1103515245};
    for (int i = 0; i < seeds.length; i++) {
      seeds[i] = i < edges.length ? edges[i] : 2654435 * i * i * i - i;
    }
    return seeds;
  }

  /** SEED, reckoned without ints that wrap, and told from 0 on. */
  private static BigInteger following(BigInteger seed) {
    return seed.multiply(BigInteger.valueOf(1103515245)).add(BigInteger.valueOf(12345)).mod(TWO_TO_32);
  }

  private static void asIfTold() {
    Due.sentence("28: a LOT of 3, a LOT of 24, a LOT of ACROBATS; SEED as ints that wrap, its upper 16 bits from 0 on");
    String[] texts = {"s55a0", "t53a0;t53b1;s33a4", State.TEN, "t29a0;s39b1;c49a2;t28c4;s27a5;c26d7;s55a3"};
    for (String text : texts) {
      for (int seed : seeds()) {
        HumanPyramid drawn = Due.told(text);
        HumanPyramid told = Due.told(text);
        BigInteger now = BigInteger.valueOf(seed);
        for (int n = 0; n <= 8; n++) {
          Due.due("years(" + seed + ", " + n + ", 0) of " + text, drawn.years(seed, n, 0), told.sum(0));
          Due.due("years(" + seed + ", " + n + ", 1) of " + text, drawn.years(seed, n, 1), told.sum(1));
          int[] of = {3, 24, told.count(0)};
          int[] lots = new int[3];
          for (int i = 0; i < 3; i++) {
            now = following(now);
            lots[i] = now.shiftRight(16).mod(BigInteger.valueOf(of[i])).intValueExact();
          }
          if (n < 8) {
            Due.due("event", told.event(lots[0], lots[1], lots[2]), n + 1);
          }
        }
      }
    }
  }

  private static void noneToEight() {
    Due.sentence("28: n EVENTS (0 to 8)");
    HumanPyramid x = Due.told("s55a0");
    // SEED 0: LOTS 0 (a sneeze), 21468 (MOMENT 12), 9988 (0)
    Due.due("years(0, 0, 0)", x.years(0, 0, 0), 24);
    Due.due("years(0, 0, 1)", x.years(0, 0, 1), 0);
    Due.due("years(0, 1, 0)", x.years(0, 1, 0), 21);
    Due.due("years(0, 1, 1)", x.years(0, 1, 1), 1);
    Due.holds("years(0, 8, 0) is no refusal", x.years(0, 8, 0) >= 0);
  }

  private static void inPlaceOfThoseTold() {
    Due.sentence("28: in place of those told");
    HumanPyramid x = Due.told(State.TEN);
    int[] before = new int[9];
    for (int n = 0; n <= 8; n++) {
      before[n] = x.years(7, n, 0);
    }
    for (int i = 0; i < 8; i++) {
      x.event(0, 1 + i, i);
    }
    for (int n = 0; n <= 8; n++) {
      Due.due("years(7, " + n + ", 0)", x.years(7, n, 0), before[n]);
    }
    Due.due("years(7, 0, 0)", x.years(7, 0, 0), 240);
  }

  private static void noAcrobats() {
    Due.sentence("28: none where there are no ACROBATS");
    for (int n = 0; n <= 8; n++) {
      for (int what = 0; what < 2; what++) {
        Due.due("years(5, " + n + ", " + what + ") of nobody", new HumanPyramid().years(5, n, what), 0);
        Due.due("years(5, " + n + ", " + what + ") with a FAULT", Due.told("s55a0;").years(5, n, what), 0);
      }
    }
  }

  private static void nothingIsTold() {
    Due.sentence("28: what is told stays told");
    Looks.same("years(3, 8, 0)", Promise28YearsTest::withYears, State.FULL::made);
  }

  private static HumanPyramid withYears() {
    HumanPyramid x = State.FULL.made();
    x.sum(0);
    x.years(3, 8, 0);
    x.years(Refused.LEAST, 5, 1);
    return x;
  }

  private static void othersAreBad() {
    Due.sentence("28: BAD");
    for (int b : new int[] {-1, 9, Refused.LEAST, Refused.GREATEST}) {
      Refused.bad("years(1, " + b + ", 0)", x -> x.years(1, b, 0));
    }
    for (int b : new int[] {-1, 2, Refused.LEAST, Refused.GREATEST}) {
      Refused.bad("years(1, 1, " + b + ")", x -> x.years(1, 1, b));
    }
  }
}
