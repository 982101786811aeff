import java.util.Arrays;

/** Promise 9, read: its boundary cases. */
final class Promise09ReadTest {
  public static void main(String[] args) {
    asManyAsAreWhole();
    eightAtMost();
    behindThoseTold();
    asLongAsEachMayBe();
    ofEveryForm();
    asIfTold();
    theSheetStays();
    othersAreBad();
    nullOfALostOne();
    Due.end();
  }

  private static void asManyAsAreWhole() {
    Due.sentence("9: three for each, as many as are whole");
    for (int n = 0; n <= 26; n++) {
      HumanPyramid x = new HumanPyramid();
      x.sheet(1, 2, n);
      Due.due("read(1) of " + n + " items", x.read(1), Math.min(8, n / 3));
      Due.due("count(2)", x.count(2), Math.min(8, n / 3));
    }
  }

  private static void eightAtMost() {
    Due.sentence("9: EVENTS, 8 at most");
    HumanPyramid x = new HumanPyramid();
    x.sheet(0, 0, 60);
    Due.due("read(0) of 60 items", x.read(0), 8);
    Due.due("count(2)", x.count(2), 8);
    Due.due("read(0) again", x.read(0), 0);
    Due.due("count(2)", x.count(2), 8);
    Due.due("count(8)", x.count(8), 0);
  }

  private static void behindThoseTold() {
    Due.sentence("9: EVENTS more, behind those told: how many came");
    for (int told = 0; told <= 8; told++) {
      HumanPyramid x = Due.told("s55a0");
      for (int i = 0; i < told; i++) {
        x.event(1, 0, 0);
      }
      Due.fill(x, 3, 0, 0, 5, 0, 0, 12, 0);
      int room = Math.min(2, 8 - told);
      Due.due("read(3) behind " + told, x.read(3), room);
      Due.due("count(2)", x.count(2), told + room);
      Due.due("sum(1)", x.sum(1), room);
    }
  }

  private static void asLongAsEachMayBe() {
    Due.sentence("9: as long as each may be");
    int[][] mayNot = {{-1, 0, 0}, {3, 0, 0}, {0, -1, 0}, {0, 24, 0}, {0, 0, -1}, {0, 0, 10}, {1, 0, 10}, {1, 0, -1}};
    int[][] may = {{0, 0, 0}, {2, 0, 0}, {0, 23, 0}, {0, 0, 9}, {1, 0, 9}};
    for (int[] b : mayNot) {
      for (int at = 0; at < 3; at++) {
        Due.due("read(0) with " + Arrays.toString(b) + " behind " + at, readWith(b, at), at);
      }
    }
    for (int[] b : may) {
      for (int at = 0; at < 3; at++) {
        Due.due("read(0) with " + Arrays.toString(b) + " behind " + at, readWith(b, at), 3);
      }
    }
  }

  /** Of three EVENTS on a SHEET one is this: how many come. */
  private static int readWith(int[] event, int at) {
    HumanPyramid x = new HumanPyramid();
    x.sheet(0, 1, 9);
    for (int i = 0; i < 3; i++) {
      x.put(0, 1, 3 * at + i, event[i]);
    }
    int came = x.read(0);
    Due.due("count(2)", x.count(2), came);
    return came;
  }

  private static void ofEveryForm() {
    Due.sentence("9: its items, of whatever FORM");
    int[] far = {256, 65536, Refused.LEAST};
    for (int form = 0; form < 3; form++) {
      for (int v : far) {
        HumanPyramid x = new HumanPyramid();
        Due.fill(x, 2, form, v, 3, 0);
        // of bytes and shorts the lowest bits alone are there: 0
        boolean isCut = form == 0 || form == 1 && v != 256;
        Due.due("read(2) of " + v + ", FORM " + form, x.read(2), isCut ? 1 : 0);
      }
      HumanPyramid y = new HumanPyramid();
      Due.fill(y, 2, form, 2, 23, 9, 0, 0, 0);
      Due.due("read(2), FORM " + form, y.read(2), 2);
    }
  }

  private static void asIfTold() {
    Due.sentence("9: EVENTS from a SHEET");
    Looks.same("read or told", Promise09ReadTest::withEventsRead, Promise09ReadTest::withEventsTold);
  }

  private static final int[] EVENTS = {0, 3, 1, 1, 9, 7, 2, 12, 2, 0, 17, 0};

  private static HumanPyramid withEventsRead() {
    HumanPyramid x = Due.told("t52a0;s95b1;c83a4");
    x.event(1, 2, 0);
    Due.fill(x, 0, 0, EVENTS);
    x.read(0);
    return x;
  }

  private static HumanPyramid withEventsTold() {
    HumanPyramid x = Due.told("t52a0;s95b1;c83a4");
    x.event(1, 2, 0);
    Due.fill(x, 0, 0, EVENTS);
    for (int i = 0; i < EVENTS.length; i += 3) {
      x.event(EVENTS[i], EVENTS[i + 1], EVENTS[i + 2]);
    }
    return x;
  }

  private static void theSheetStays() {
    Due.sentence("9: the SHEET stays as it is");
    HumanPyramid x = new HumanPyramid();
    Due.fill(x, 0, 2, 0, 3, 1, 5, 6);
    x.read(0);
    int[] want = {0, 3, 1, 5, 6};
    for (int i = 0; i < 5; i++) {
      Due.due("get(0, 2, " + i + ")", x.get(0, 2, i), want[i]);
    }
    Due.due("lose(0)", x.lose(0), 5);
  }

  private static void othersAreBad() {
    Due.sentence("9: BAD");
    for (int b : new int[] {-1, 4, Refused.LEAST, Refused.GREATEST}) {
      Refused.bad("read(" + b + ")", x -> x.read(b));
    }
  }

  private static void nullOfALostOne() {
    Due.sentence("9: NULL: the SHEET is LOST");
    for (int s = 0; s < 4; s++) {
      int lost = s;
      Refused.in(State.NEW, "read(" + s + ")", x -> x.read(lost), -11, 1);
    }
    Refused.in(State.SOME, "read(3)", x -> x.read(3), -11, 1);
    Refused.in(State.FAULTY, "read(0)", x -> x.read(0), -11, 1);
    HumanPyramid x = State.FULL.made();
    x.lose(2);
    Due.due("read(2) of one that was lost, into full EVENTS", x.read(2), -11);
    Due.due("count(8)", x.count(8), 1);
  }
}
