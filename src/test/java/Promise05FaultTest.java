/** Promise 5, fault: its boundary cases. */
final class Promise05FaultTest {
  private static final String[] MAY = {"stc", "123456789", "123456789", "abcdefghijklmnopqrstuvwx", "0123456789", ";"};

  public static void main(String[] args) {
    anEmptyOneIsWell();
    everyByteEverywhere();
    notEnded();
    theFirstCounts();
    aPlaceThatIsAnothersAlready();
    noRoomForAnEleventh();
    asIfItWasEmpty();
    Due.end();
  }

  private static void fault(String text, int want) {
    Due.due("fault() of '" + text + "'", Due.told(text).fault(), want);
  }

  private static void anEmptyOneIsWell() {
    Due.sentence("5: NONE: an empty one is well");
    fault("", -1);
  }

  /** Behind none, one and nine whole ACROBATS each byte comes at each of the six places. */
  private static void everyByteEverywhere() {
    Due.sentence("5: the first byte with which it cannot go on");
    for (int ahead : new int[] {0, 6, 54}) {
      for (int part = 0; part < 6 && ahead + part < 59; part++) {
        HumanPyramid x = Due.told(State.TEN.substring(0, ahead + part));
        for (int b = 0; b <= 255; b++) {
          boolean isWell = MAY[part].indexOf(b) >= 0 && (part != 4 || b - '0' >= ahead / 6);
          int end = ahead + part + 1;
          int want = !isWell ? ahead + part : end % 6 == 5 ? -1 : end;
          x.type(b);
          Due.due("fault() of '" + State.TEN.substring(0, ahead + part) + "' and " + b, x.fault(), want);
          x.undo();
          if (b == 120) {
            // within an object's 512 calls
            x = Due.told(State.TEN.substring(0, ahead + part));
          }
        }
      }
    }
  }

  private static void notEnded() {
    Due.sentence("5: of one that is not ended, its end");
    for (int n = 1; n <= 59; n++) {
      fault(State.TEN.substring(0, n), n % 6 == 5 ? -1 : n);
    }
  }

  private static void theFirstCounts() {
    Due.sentence("5: the place of the first byte");
    fault("zzzzz", 0);
    fault("s0000", 1);
    fault("s10", 2);
    fault("s1100", 3);
    fault("s11a;", 4);
    fault("s11a00", 5);
    fault("s11a0;;", 6);
    // a FAULT stays, whatever comes behind it
    HumanPyramid x = new HumanPyramid();
    for (int n = 0; n < 59; n++) {
      x.type(n == 20 ? '!' : State.TEN.charAt(n));
    }
    Due.due("fault() of 59 bytes", x.fault(), 20);
    Due.due("count(0)", x.count(0), 0);
    // of two FAULTS, a byte ahead of a PLACE taken and the other way round
    fault("s11a0;sx1a0", 7);
    fault("s11a0;s11a0;x", 10);
  }

  private static void aPlaceThatIsAnothersAlready() {
    Due.sentence("5: a PLACE that is another one's already");
    for (int a = 1; a < 10; a++) {
      for (int taken = 0; taken < a; taken++) {
        String text = State.TEN.substring(0, 6 * a) + "s11a" + taken;
        fault(text, 6 * a + 4);
      }
    }
    // the tenth may have the one that is left, and no other
    String nine = "c19a9;c19a8;c19a7;c19a6;c19a5;c19a3;c19a2;c19a1;c19a0;";
    for (int p = 0; p < 10; p++) {
      fault(nine + "s11x" + p, p == 4 ? -1 : 58);
    }
  }

  private static void noRoomForAnEleventh() {
    Due.sentence("5: ten ACROBATS are 59 bytes, and well");
    HumanPyramid x = Due.told(State.TEN);
    Due.due("fault()", x.fault(), -1);
    Due.due("type(';')", x.type(';'), -4);
    Due.due("fault()", x.fault(), -1);
    Due.due("count(0)", x.count(0), 10);
  }

  private static void asIfItWasEmpty() {
    Due.sentence("5: with a FAULT it is as if it was empty");
    for (String text : new String[] {"x", "s", "s11a0;", State.TEN.substring(0, 58), "s55a0;s55a1;s55a0"}) {
      Looks.sameButForTheBytes("with '" + text + "'", () -> withEvents(text), () -> withEvents(""));
    }
  }

  private static HumanPyramid withEvents(String text) {
    HumanPyramid x = Due.told(text);
    x.event(0, 5, 0);
    x.event(1, 6, 1);
    x.seen(3, 0, 10);
    x.sheet(2, 1, 4);
    return x;
  }
}
