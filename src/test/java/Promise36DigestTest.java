import java.math.BigInteger;
import java.util.ArrayList;
import java.util.List;

/** Promise 36, digest: its boundary cases. */
final class Promise36DigestTest {
  private static final BigInteger TWO_TO_64 = BigInteger.ONE.shiftLeft(64);

  public static void main(String[] args) {
    asLongsThatWrap();
    ofANewObject();
    ofARunThatIsKnown();
    changesNothing();
    findingsAreNotInIt();
    whatIsToldIsInIt();
    Due.end();
  }

  /** What the document lists, in its order. */
  private static List<Long> each(HumanPyramid x) {
    List<Long> all = new ArrayList<>();
    for (int what = 0; what <= 7; what++) all.add((long) x.count(what));
    all.add((long) x.fault());
    for (int m = 0; m <= 23; m++) {
      all.add((long) x.tower(m, 0));
      all.add((long) x.tower(m, 1));
      all.add((long) x.stands(m, 0));
      all.add((long) x.stands(m, 5));
    }
    return all;
  }

  private static List<Long> eachOfAcrobat(HumanPyramid x, int a) {
    List<Long> all = new ArrayList<>();
    for (int what = 0; what <= 4; what++) all.add((long) x.acrobat(a, what));
    for (int m : new int[] {0, 4, 10, 17, 23}) {
      for (int what = 0; what <= 3; what++) all.add((long) x.at(m, a, what));
    }
    all.add((long) x.come(a, 0));
    all.add((long) x.come(a, 1));
    all.add((long) x.was(a, 0));
    all.add((long) x.was(a, 1));
    all.add((long) x.ask(a));
    return all;
  }

  private static List<Long> rest(HumanPyramid x) {
    List<Long> all = new ArrayList<>();
    for (int m : new int[] {5, 15}) {
      all.add(x.chance(5, m, 0));
      all.add(x.chance(5, m, 1));
    }
    int[] last = {x.top(0), x.top(1), x.most(0), x.most(1), x.clumsy(), x.down(), x.swap(0), x.swap(1), x.swap(2),
        x.train(0), x.train(1), x.spare(-1), x.spare(0), x.never(), x.years(7, 6, 0), x.years(7, 6, 1)};
    for (int value : last) all.add((long) value);
    return all;
  }

  /** Reckoned without longs that wrap; cut to the lowest 64 bits at the end. */
  private static long reckoned(List<Long> all) {
    BigInteger h = BigInteger.valueOf(17);
    for (long value : all) {
      h = h.multiply(BigInteger.valueOf(31)).add(BigInteger.valueOf(value));
    }
    return h.mod(TWO_TO_64).longValue();
  }

  private static void digestOf(String what, Looks.Make make) {
    List<Long> all = new ArrayList<>(each(make.made()));
    for (int a = 0; a < make.made().count(0); a++) {
      all.addAll(eachOfAcrobat(make.made(), a));
    }
    all.addAll(rest(make.made()));
    Due.due("digest() of " + what, make.made().digest(), reckoned(all));
  }

  private static void asLongsThatWrap() {
    Due.sentence("36: h is 17; h becomes 31 h and each of these; as longs that wrap");
    for (State state : State.values()) {
      digestOf(state.toString(), state::made);
    }
    digestOf("one", () -> Due.told("t51a0"));
    for (int n = 0; n <= 59; n += 7) {
      int bytes = n;
      digestOf(n + " bytes", () -> Due.told(State.TEN.substring(0, bytes)));
    }
    digestOf("one with eight sneezes", Promise36DigestTest::withSneezes);
    // in the MOMENTS that it asks for, and beside them
    for (int m = 0; m < 24; m++) {
      int moment = m;
      digestOf("a sneeze in " + m, () -> withASneeze(moment));
    }
    // the sixth of the EVENTS by SEED 7 (APPLAUSE in 1) keeps 0 from FALLING in 23, the seventh (in 4) makes one FALL
    digestOf("three", () -> Due.told("t55a0;s55a1;s55a2"));
    HumanPyramid x = Due.told("t55a0;s55a1;s55a2");
    Due.due("years(7, 5, 1)", x.years(7, 5, 1), 3);
    Due.due("years(7, 6, 1)", x.years(7, 6, 1), 2);
    Due.due("years(7, 7, 1)", x.years(7, 7, 1), 3);
  }

  private static HumanPyramid withASneeze(int moment) {
    HumanPyramid x = Due.told("s55a0;s55c1");
    x.event(0, moment, 0);
    x.seen(moment, 0, 0);
    return x;
  }

  private static HumanPyramid withSneezes() {
    HumanPyramid x = Due.told("s55a0;t53b1");
    for (int i = 0; i < 8; i++) {
      x.event(0, 3 + 2 * i, i % 2);
    }
    return x;
  }

  private static void ofANewObject() {
    Due.sentence("36: of a new object");
    List<Long> all = new ArrayList<>();
    for (int what = 0; what <= 7; what++) all.add(0L);
    all.add(-1L);
    for (int m = 0; m <= 23; m++) all.addAll(List.of(0L, 0L, -1L, -1L));
    all.addAll(List.of(0L, 1L, 0L, 1L));
    // top, most, clumsy, down
    all.addAll(List.of(-1L, 0L, 0L, 0L, -1L, 0L));
    // swap, train
    all.addAll(List.of(-1L, -1L, -1L, -1L, -1L));
    // spare, never, years
    all.addAll(List.of(0L, -1L, 0L, 0L, 0L));
    Due.due("digest()", new HumanPyramid().digest(), reckoned(all));
  }

  /** Run 3 of ../shared/tests/HumanPyramidRuns.java. */
  private static void ofARunThatIsKnown() {
    Due.sentence("36: of a run whose digest is known");
    HumanPyramid x = Due.told("s53a0;t54a1;c65b4");
    x.event(0, 3, 0);
    x.event(1, 5, 0);
    Due.due("digest()", x.digest(), -7502180139868134024L);
  }

  private static void changesNothing() {
    Due.sentence("36: it changes nothing");
    for (State state : State.values()) {
      Looks.same("digest() of " + state, () -> digested(state), state::made);
      HumanPyramid x = state.made();
      long first = x.digest();
      Due.due("digest() of " + state + " again", x.digest(), first);
    }
  }

  private static HumanPyramid digested(State state) {
    HumanPyramid x = state.made();
    x.digest();
    return x;
  }

  private static void findingsAreNotInIt() {
    Due.sentence("36: count() 0 to 7, not 8");
    HumanPyramid x = State.SOME.made();
    long before = x.digest();
    Due.due("lose(3)", x.lose(3), -11);
    Due.due("digest() behind a FINDING", x.digest(), before);
    x.sheet(3, 2, 60);
    Due.due("digest() behind a SHEET", x.digest(), before);
  }

  private static void whatIsToldIsInIt() {
    Due.sentence("36: of what is told at the time");
    HumanPyramid x = State.SOME.made();
    long before = x.digest();
    x.type(';');
    Due.holds("another one with a byte more", x.digest() != before);
    x.undo();
    Due.due("digest()", x.digest(), before);
    x.event(1, 0, 0);
    Due.holds("another one with an EVENT more", x.digest() != before);
    x.back();
    Due.due("digest()", x.digest(), before);
    x.seen(0, 0, 0);
    Due.holds("another one with one SEEN more", x.digest() != before);
  }
}
