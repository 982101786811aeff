/** Promises 29 to 34: sheet, lose, put, get, copy, write. */
final class SheetsTest {
  private static final int LEAST = Integer.MIN_VALUE;

  public static void main(String[] args) {
    made();
    lost();
    items();
    itemsRefused();
    copied();
    copyRefused();
    written();
    Due.end();
  }

  private static void made() {
    HumanPyramid x = new HumanPyramid();
    Due.due("sheet(0, 0, 60)", x.sheet(0, 0, 60), 60);
    Due.due("sheet(3, 2, 0)", x.sheet(3, 2, 0), 0);
    Due.due("sheet(-1, 0, 1)", x.sheet(-1, 0, 1), -2);
    Due.due("sheet(4, 0, 1)", x.sheet(4, 0, 1), -2);
    Due.due("sheet(0, -1, 1)", x.sheet(0, -1, 1), -2);
    Due.due("sheet(0, 3, 1)", x.sheet(0, 3, 1), -2);
    Due.due("sheet(0, 0, 61)", x.sheet(0, 0, 61), -2);
    Due.due("sheet(4, 0, -1)", x.sheet(4, 0, -1), -2);
    Due.due("sheet(0, 3, -1)", x.sheet(0, 3, -1), -2);
    Due.due("count(8)", x.count(8), 0);
    Due.due("sheet(0, 0, -1)", x.sheet(0, 0, -1), -15);
    Due.due("sheet(0, 0, least)", x.sheet(0, 0, LEAST), -15);
    Due.due("count(8)", x.count(8), 5);
    Due.due("put(0, 0, 59, 7)", x.put(0, 0, 59, 7), 1);
    Due.due("sheet(0, 0, 60) anew", x.sheet(0, 0, 60), 60);
    Due.due("get(0, 0, 59)", x.get(0, 0, 59), 0);
    Due.due("sheet(0, 1, 2) anew", x.sheet(0, 1, 2), 2);
    Due.due("get(0, 0, 0)", x.get(0, 0, 0), LEAST);
    Due.due("get(0, 1, 0)", x.get(0, 1, 0), 0);
    Due.due("get(0, 1, 2)", x.get(0, 1, 2), LEAST);
  }

  private static void lost() {
    HumanPyramid x = new HumanPyramid();
    Due.due("lose(-1)", x.lose(-1), -2);
    Due.due("lose(4)", x.lose(4), -2);
    Due.due("lose(0)", x.lose(0), -11);
    x.sheet(0, 1, 17);
    Due.due("lose(0)", x.lose(0), 17);
    Due.due("lose(0) again", x.lose(0), -11);
    Due.due("count(8)", x.count(8), 1);
    Due.due("get(0, 1, 0) of a lost one", x.get(0, 1, 0), LEAST);
  }

  private static void items() {
    HumanPyramid x = new HumanPyramid();
    int[] vs = {0, 1, -1, 127, 128, 255, 256, -129, 32767, 32768, 65535, 65536, Integer.MAX_VALUE, LEAST};
    for (int form = 0; form < 3; form++) {
      x.sheet(form, form, 3);
      for (int v : vs) {
        Due.due("put(" + form + ", " + form + ", 1, " + v + ")", x.put(form, form, 1, v), 1);
        int want = form == 0 ? (byte) v : form == 1 ? (short) v : v;
        Due.due("get(" + form + ", " + form + ", 1) of " + v, x.get(form, form, 1), want);
        Due.due("its neighbours", x.get(form, form, 0) | x.get(form, form, 2), 0);
      }
    }
  }

  private static void itemsRefused() {
    HumanPyramid x = new HumanPyramid();
    x.sheet(1, 1, 2);
    int[][] bad = {{-1, 1, 0}, {4, 1, 0}, {1, -1, 0}, {1, 3, 0}, {0, 3, 9}};
    for (int[] b : bad) {
      Due.due("put(" + b[0] + ", " + b[1] + ", " + b[2] + ", 5)", x.put(b[0], b[1], b[2], 5), -2);
      Due.due("get(" + b[0] + ", " + b[1] + ", " + b[2] + ")", x.get(b[0], b[1], b[2]), LEAST);
    }
    Due.due("count(8)", x.count(8), 0);
    int[][] found = {{0, 1, 9, 1}, {1, 0, 9, 3}, {1, 2, 0, 3}, {1, 1, 2, 2}, {1, 1, -1, 2}, {1, 1, LEAST, 2}};
    for (int[] f : found) {
      Due.due("put(" + f[0] + ", " + f[1] + ", " + f[2] + ", 5)", x.put(f[0], f[1], f[2], 5), -10 - f[3]);
      Due.due("count(8)", x.count(8), f[3]);
      x.sheet(0, 0, -1);
      Due.due("get(" + f[0] + ", " + f[1] + ", " + f[2] + ")", x.get(f[0], f[1], f[2]), LEAST);
      Due.due("count(8)", x.count(8), f[3]);
    }
    Due.due("get(1, 1, 0)", x.get(1, 1, 0), 0);
    Due.due("count(8) stays the latest", x.count(8), 2);
  }

  private static void row(HumanPyramid x, int s, int form, int... want) {
    for (int i = 0; i < want.length; i++) {
      Due.due("get(" + s + ", " + form + ", " + i + ")", x.get(s, form, i), want[i]);
    }
  }

  private static void copied() {
    HumanPyramid x = new HumanPyramid();
    Due.fill(x, 0, 2, 1, 2, 3, 4, 5);
    Due.fill(x, 1, 2, 9, 9, 9);
    Due.due("copy(0, 1, 1, 0, 2)", x.copy(0, 1, 1, 0, 2), 1);
    row(x, 1, 2, 2, 3, 9);
    Due.due("copy(0, 0, 0, 1, 4)", x.copy(0, 0, 0, 1, 4), 1);
    row(x, 0, 2, 1, 1, 2, 3, 4);
    Due.due("copy(0, 2, 0, 0, 3)", x.copy(0, 2, 0, 0, 3), 1);
    row(x, 0, 2, 2, 3, 4, 3, 4);
    Due.due("copy of none", x.copy(0, 5, 1, 3, 0), 1);
    row(x, 1, 2, 2, 3, 9);
  }

  private static void copyRefused() {
    HumanPyramid x = new HumanPyramid();
    Due.fill(x, 0, 2, 1, 2, 3);
    Due.fill(x, 1, 2, 4, 5);
    Due.fill(x, 2, 1, 6, 7);
    int[][] refused = {
        {-1, 0, 0, 0, 1, -2}, {0, 0, 4, 0, 1, -2}, {3, 0, 4, 0, 1, -2},
        {3, 0, 0, 0, 1, -11}, {0, 0, 3, 0, 1, -11}, {3, -1, 2, 0, 1, -11},
        {0, 0, 2, 0, 1, -14}, {0, -1, 2, 0, 1, -14},
        {0, -1, 1, 0, 1, -12}, {0, 0, 1, -1, 1, -12}, {0, 0, 1, 0, -1, -12},
        {0, 0, 1, 0, 3, -12}, {0, 2, 1, 0, 2, -12}, {0, 0, 1, 1, 2, -12}, {0, 4, 1, 0, 0, -12}, {0, 0, 1, 3, 0, -12},
        {0, 1, 1, 1, Integer.MAX_VALUE, -12}, {0, Integer.MAX_VALUE, 1, 0, 1, -12}, {0, 0, 1, Integer.MAX_VALUE, 1, -12},
        {0, Integer.MAX_VALUE, 1, Integer.MAX_VALUE, Integer.MAX_VALUE, -12}, {0, LEAST, 1, LEAST, LEAST, -12}};
    for (int[] r : refused) {
      String call = "copy(" + r[0] + ", " + r[1] + ", " + r[2] + ", " + r[3] + ", " + r[4] + ")";
      int before = x.count(8);
      Due.due(call, x.copy(r[0], r[1], r[2], r[3], r[4]), r[5]);
      Due.due("count(8) behind " + call, x.count(8), r[5] == -2 ? before : -10 - r[5]);
    }
    row(x, 0, 2, 1, 2, 3);
    row(x, 1, 2, 4, 5);
    row(x, 2, 1, 6, 7);
  }

  private static void written() {
    HumanPyramid x = Due.told("s55a3;s55b0;s55a9");
    for (int form = 0; form < 3; form++) {
      x.sheet(0, form, 12);
      x.put(0, form, 10, 77);
      Due.due("write(0, 0)", x.write(0, 0), 10);
      row(x, 0, form, -1, -1, -1, 0, -1, -1, -1, -1, -1, -1, 77, 0);
      Due.due("write(1, 0)", x.write(1, 0), 10);
      row(x, 0, form, 1, -1, -1, 0, -1, -1, -1, -1, -1, -1, 77, 0);
      x.sheet(0, form, 4);
      Due.due("write(23, 0)", x.write(23, 0), 4);
      row(x, 0, form, 1, -1, -1, 0);
      x.sheet(0, form, 0);
      Due.due("write(23, 0) to an empty one", x.write(23, 0), 0);
    }
    Due.due("write(-1, 0)", x.write(-1, 0), -2);
    Due.due("write(24, 0)", x.write(24, 0), -2);
    Due.due("write(0, -1)", x.write(0, -1), -2);
    Due.due("write(0, 4)", x.write(0, 4), -2);
    Due.due("write(24, 1) to a lost one", x.write(24, 1), -2);
    Due.due("count(8)", x.count(8), 0);
    Due.due("write(0, 1) to a lost one", x.write(0, 1), -11);
    Due.due("count(8)", x.count(8), 1);
  }
}
