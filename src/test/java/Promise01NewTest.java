/** Promise 1, a new object: its boundary cases. */
final class Promise01NewTest {
  private static final int LEAST = Integer.MIN_VALUE;

  public static void main(String[] args) {
    noAcrobats();
    noEvents();
    nothingSeen();
    allSheetsAreLost();
    noFindingYet();
    constants();
    objectsShareNothing();
    theLastOf512Calls();
    Due.end();
  }

  private static void noAcrobats() {
    Due.sentence("1: no ACROBATS");
    HumanPyramid x = new HumanPyramid();
    Due.due("count(0)", x.count(0), 0);
    Due.due("count(1)", x.count(1), 0);
    Due.due("fault()", x.fault(), -1);
    Due.due("acrobat(0, 0)", x.acrobat(0, 0), -2);
    Due.due("at(0, 0, 0)", x.at(0, 0, 0), -2);
    Due.due("undo()", x.undo(), -3);
    Due.due("wipe()", x.wipe(), 0);
    for (int m = 0; m < 24; m++) {
      Due.due("tower(" + m + ", 0)", x.tower(m, 0), 0);
      Due.due("tower(" + m + ", 1)", x.tower(m, 1), 0);
      for (int p = 0; p < 10; p++) {
        Due.due("stands(" + m + ", " + p + ")", x.stands(m, p), -1);
      }
    }
    for (int what = 3; what <= 6; what++) {
      Due.due("count(" + what + ")", x.count(what), 0);
    }
  }

  private static void noEvents() {
    Due.sentence("1: no EVENTS");
    HumanPyramid x = new HumanPyramid();
    Due.due("count(2)", x.count(2), 0);
    Due.due("never()", x.never(), 0);
    Due.due("back()", x.back(), -3);
    Due.due("spare(-1)", x.spare(-1), 0);
  }

  private static void nothingSeen() {
    Due.sentence("1: nothing SEEN");
    HumanPyramid x = new HumanPyramid();
    Due.due("count(7)", x.count(7), 0);
    Due.due("forget()", x.forget(), 0);
  }

  private static void allSheetsAreLost() {
    Due.sentence("1: all SHEETS are LOST");
    for (int s = 0; s < 4; s++) {
      HumanPyramid x = new HumanPyramid();
      Due.due("lose(" + s + ")", x.lose(s), -11);
      Due.due("read(" + s + ")", x.read(s), -11);
      Due.due("write(0, " + s + ")", x.write(0, s), -11);
      Due.due("copy(" + s + ", 0, " + s + ", 0, 0)", x.copy(s, 0, s, 0, 0), -11);
      for (int form = 0; form < 3; form++) {
        Due.due("put(" + s + ", " + form + ", 0, 0)", x.put(s, form, 0, 0), -11);
        Due.due("get(" + s + ", " + form + ", 0)", x.get(s, form, 0), LEAST);
      }
      Due.due("count(8)", x.count(8), 1);
    }
  }

  private static void noFindingYet() {
    Due.sentence("1: count() 8 is 0 before any FINDING");
    Due.due("count(8)", new HumanPyramid().count(8), 0);
  }

  private static void constants() {
    Due.sentence("the face: NONE, BAD, NOT, FULL");
    Due.due("NONE", HumanPyramid.NONE, -1);
    Due.due("BAD", HumanPyramid.BAD, -2);
    Due.due("NOT", HumanPyramid.NOT, -3);
    Due.due("FULL", HumanPyramid.FULL, -4);
  }

  private static void objectsShareNothing() {
    Due.sentence("1: whatever was told another object");
    Looks before = Looks.at(HumanPyramid::new);
    Looks.same("a new one beside a full one", Looks.at(Promise01NewTest::newBesideAFullOne), before);
    Looks.same("a full one beside new ones", Looks.at(Promise01NewTest::fullBesideNewOnes), Looks.at(State.FULL::made));
    Due.due("count(8)", newBesideAFullOne().count(8), 0);
  }

  private static HumanPyramid newBesideAFullOne() {
    HumanPyramid x = new HumanPyramid();
    State.FULL.made().digest();
    return x;
  }

  private static HumanPyramid fullBesideNewOnes() {
    HumanPyramid x = State.FULL.made();
    State.SOME.made().digest();
    State.FAULTY.made().wipe();
    return x;
  }

  private static void theLastOf512Calls() {
    Due.sentence("an object is used for 512 calls");
    HumanPyramid x = State.FULL.made();
    long digest = x.digest();
    int told = 59 + 8 + 8 + 12 + 1 + 1;
    for (int call = told + 1; call < 512; call += 2) {
      x.back();
      x.event(7 % 3, 15, 2);
    }
    Due.due("digest() as the 512th call", x.digest(), digest);
  }
}
