/** Promises 7 to 9: event, back, read; and what EVENTS do. */
final class EventsTest {
  public static void main(String[] args) {
    told();
    refused();
    read();
    readStops();
    readRefused();
    sneezes();
    applause();
    held();
    Due.end();
  }

  private static void told() {
    HumanPyramid x = new HumanPyramid();
    Due.due("back() of none", x.back(), -3);
    for (int i = 1; i <= 8; i++) {
      Due.due("event " + i, x.event(i % 3, 3 * i - 1, 9), i);
    }
    Due.due("a ninth", x.event(0, 0, 0), -4);
    Due.due("a bad ninth", x.event(3, 0, 0), -2);
    Due.due("count(2)", x.count(2), 8);
    Due.due("back()", x.back(), 7);
    Due.due("event again", x.event(0, 0, 0), 8);
    for (int i = 7; i >= 0; i--) {
      Due.due("back()", x.back(), i);
    }
    Due.due("back() of none", x.back(), -3);
  }

  private static void refused() {
    HumanPyramid x = new HumanPyramid();
    int[][] bad = {{-1, 0, 0}, {3, 0, 0}, {0, -1, 0}, {0, 24, 0}, {0, 0, -1}, {0, 0, 10}, {1, 0, 10}, {1, 0, -1}};
    for (int[] b : bad) {
      Due.due("event(" + b[0] + ", " + b[1] + ", " + b[2] + ")", x.event(b[0], b[1], b[2]), -2);
    }
    Due.due("count(2)", x.count(2), 0);
    Due.due("event(2, 23, 9)", x.event(2, 23, 9), 1);
    Due.due("event(0, 0, 0)", x.event(0, 0, 0), 2);
  }

  private static void read() {
    for (int form = 0; form < 3; form++) {
      HumanPyramid x = Due.told("s55a0");
      Due.fill(x, 1, form, 0, 3, 0, 1, 4, 9, 2, 5, 1, 0);
      Due.due("read(1), form " + form, x.read(1), 3);
      Due.due("count(2)", x.count(2), 3);
      // the sneeze is there, and once only
      Due.due("sum(1)", x.sum(1), 1);
      Due.due("at(3, 0, 0)", x.at(3, 0, 0), 3);
      // behind those told before
      Due.due("read(1) again", x.read(1), 3);
      Due.due("count(2)", x.count(2), 6);
      Due.due("read(1), as long as there is room", x.read(1), 2);
      Due.due("count(2)", x.count(2), 8);
      Due.due("read(1) into full EVENTS", x.read(1), 0);
      Due.due("back()", x.back(), 7);
    }
  }

  private static void readStops() {
    HumanPyramid x = new HumanPyramid();
    Due.fill(x, 0, 2, 0, 3, 0, 3, 0, 0, 0, 4, 0);
    Due.due("read(0) up to a bad kind", x.read(0), 1);
    Due.fill(x, 0, 2, 0, 3, 0, 0, 4, 0, 0, 24, 0);
    Due.due("read(0) up to a bad moment", x.read(0), 2);
    Due.fill(x, 0, 2, 0, 3, 10, 0, 4, 0);
    Due.due("read(0) up to a bad number", x.read(0), 0);
    Due.fill(x, 0, 2, 0, 3);
    Due.due("read(0) of none whole", x.read(0), 0);
    Due.due("sheet(0, 0, 0)", x.sheet(0, 0, 0), 0);
    Due.due("read(0) of an empty one", x.read(0), 0);
    Due.due("count(2)", x.count(2), 3);
  }

  private static void readRefused() {
    HumanPyramid x = new HumanPyramid();
    Due.due("read(-1)", x.read(-1), -2);
    Due.due("read(4)", x.read(4), -2);
    Due.due("count(8)", x.count(8), 0);
    Due.due("read(3) of a lost one", x.read(3), -11);
    Due.due("count(8)", x.count(8), 1);
  }

  /** Ten who stand from moment 0 on and never tire: each bears 17 eighths at most. */
  private static final String ALL = "c19a0;c19a1;c19a2;c19a3;c19a4;c19a5;c19a6;c19a7;c19a8;c19a9";

  private static void sneezes() {
    HumanPyramid x = Due.told(ALL);
    Due.due("event", x.event(0, 2, 6), 1);
    // 6 FALLS, and 8 and 9 on it
    int[] want = {0, 1, 2, 3, 4, 5, -1, 7, -1, -1};
    for (int p = 0; p < 10; p++) {
      Due.due("stands(1, " + p + ")", x.stands(1, p), p);
      Due.due("stands(2, " + p + ")", x.stands(2, p), want[p]);
      Due.due("stands(4, " + p + ")", x.stands(4, p), want[p]);
      Due.due("stands(5, " + p + ")", x.stands(5, p), p);
    }
    Due.due("sum(1)", x.sum(1), 3);
    Due.due("a sneeze at the start, when nobody stands", x.event(0, 0, 0), 2);
    Due.due("one of somebody who lies", x.event(0, 4, 6), 3);
    Due.due("sum(1)", x.sum(1), 3);
    Due.due("two in one moment", x.event(0, 10, 7) + x.event(0, 10, 7), 9);
    Due.due("sum(1)", x.sum(1), 5);
    HumanPyramid y = Due.told("s55a0");
    Due.due("one of nobody", y.event(0, 3, 1), 1);
    Due.due("sum(1)", y.sum(1), 0);
    HumanPyramid z = Due.told(ALL);
    Due.due("two beside each other", z.event(0, 10, 0) + z.event(0, 10, 3), 3);
    // on 0: 4, 7, 9; on 3: 6, 8, 9
    Due.due("sum(1)", z.sum(1), 7);
    Due.due("tower(10, 0)", z.tower(10, 0), 3);
    Due.due("stands(10, 5)", z.stands(10, 5), 5);
  }

  private static void applause() {
    // TIRED by 1 each moment; FALLS beyond 4
    HumanPyramid x = Due.told("t51a0");
    Due.due("event", x.event(1, 3, 7), 1);
    int[] want = {1, 2, 3, 1, 2, 3, 4, 0};
    for (int m = 0; m < want.length; m++) {
      Due.due("at(" + m + ", 0, 2)", x.at(m, 0, 2), want[m]);
    }
    Due.due("at(7, 0, 0)", x.at(7, 0, 0), 3);
    // 0 at least
    HumanPyramid y = Due.told("t51a0");
    Due.due("event", y.event(1, 2, 0), 1);
    Due.due("at(2, 0, 2)", y.at(2, 0, 2), 1);
    // each one helps
    HumanPyramid z = Due.told("t59a0");
    Due.due("events", z.event(1, 8, 0) + z.event(1, 8, 0), 3);
    Due.due("at(7, 0, 2)", z.at(7, 0, 2), 8);
    Due.due("at(8, 0, 2)", z.at(8, 0, 2), 3);
  }

  private static void held() {
    HumanPyramid x = Due.told("s55a0;s55b1");
    Due.due("events", x.event(2, 0, 0) + x.event(2, 2, 1) + x.event(2, 5, 7), 6);
    Due.due("held, does not stand", x.at(0, 0, 0), 1);
    Due.due("climbs a moment later", x.at(1, 0, 0), 2);
    Due.due("one who stands stays", x.at(2, 1, 0), 2);
    Due.due("sum(0)", x.sum(0), 46);
    Due.due("sum(1)", x.sum(1), 0);
    HumanPyramid y = Due.told("s55a0;s55a1;s55a2");
    Due.due("two in one moment", y.event(2, 0, 0) + y.event(2, 0, 2), 3);
    Due.due("tower(0, 0)", y.tower(0, 0), 1);
    Due.due("stands(0, 1)", y.stands(0, 1), 1);
    Due.due("tower(1, 0)", y.tower(1, 0), 3);
  }
}
