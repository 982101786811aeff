/** Promise 31, put: its boundary cases. */
final class Promise31PutTest {
  public static void main(String[] args) {
    everyItem();
    theLowestBits();
    theOthersStay();
    othersAreBad();
    nulls();
    casts();
    indexes();
    theFirstThatFits();
    Due.end();
  }

  private static void everyItem() {
    Due.sentence("31: item i, 0 to 59: 1");
    for (int form = 0; form < 3; form++) {
      HumanPyramid x = new HumanPyramid();
      x.sheet(form + 1, form, 60);
      for (int i = 0; i < 60; i++) {
        Due.due("put(" + (form + 1) + ", " + form + ", " + i + ", " + (i + 1) + ")", x.put(form + 1, form, i, i + 1), 1);
      }
      for (int i = 0; i < 60; i++) {
        Due.due("get(" + (form + 1) + ", " + form + ", " + i + ")", x.get(form + 1, form, i), i + 1);
      }
    }
  }

  private static void becomes(int form, int v, int want) {
    HumanPyramid x = new HumanPyramid();
    x.sheet(0, form, 1);
    Due.due("put(0, " + form + ", 0, " + v + ")", x.put(0, form, 0, v), 1);
    Due.due("get(0, " + form + ", 0) of " + v, x.get(0, form, 0), want);
  }

  private static void theLowestBits() {
    Due.sentence("31: becomes v (the lowest bits that it has)");
    int[][] bytes = {{127, 127}, {128, -128}, {-128, -128}, {-129, 127}, {255, -1}, {256, 0}, {257, 1}, {-1, -1},
        {-256, 0}, {0x12345680, -128}, {Refused.LEAST, 0}, {Refused.GREATEST, -1}};
    for (int[] b : bytes) {
      becomes(0, b[0], b[1]);
    }
    int[][] shorts = {{127, 127}, {128, 128}, {32767, 32767}, {32768, -32768}, {-32768, -32768}, {-32769, 32767},
        {65535, -1}, {65536, 0}, {65537, 1}, {0x12348000, -32768}, {Refused.LEAST, 0}, {Refused.GREATEST, -1}};
    for (int[] b : shorts) {
      becomes(1, b[0], b[1]);
    }
    int[] ints = {0, 1, -1, 127, 128, 255, 256, 32767, 32768, 65535, 65536, 0x12345680, Refused.LEAST, Refused.GREATEST};
    for (int v : ints) {
      becomes(2, v, v);
    }
  }

  private static void theOthersStay() {
    Due.sentence("31: item i alone");
    HumanPyramid x = new HumanPyramid();
    for (int s = 0; s < 4; s++) {
      x.sheet(s, 2, 3);
    }
    x.put(1, 2, 1, 77);
    for (int s = 0; s < 4; s++) {
      for (int i = 0; i < 3; i++) {
        Due.due("get(" + s + ", 2, " + i + ")", x.get(s, 2, i), s == 1 && i == 1 ? 77 : 0);
      }
    }
    Due.due("count(8)", x.count(8), 0);
  }

  private static void othersAreBad() {
    Due.sentence("31: BAD");
    for (int b : new int[] {-1, 4, Refused.LEAST, Refused.GREATEST}) {
      Refused.bad("put(" + b + ", 0, 0, 9)", x -> x.put(b, 0, 0, 9));
    }
    for (int b : new int[] {-1, 3, Refused.LEAST, Refused.GREATEST}) {
      Refused.bad("put(0, " + b + ", 0, 9)", x -> x.put(0, b, 0, 9));
    }
  }

  private static void nulls() {
    Due.sentence("31: NULL: the SHEET is LOST");
    for (int s = 0; s < 4; s++) {
      int lost = s;
      Refused.in(State.NEW, "put(" + s + ", 2, 0, 9)", x -> x.put(lost, 2, 0, 9), -11, 1);
    }
    Refused.in(State.SOME, "put(3, 0, 0, 9)", x -> x.put(3, 0, 0, 9), -11, 1);
  }

  private static void casts() {
    Due.sentence("31: CAST: it has another FORM");
    for (int s = 0; s < 3; s++) {
      for (int form = 0; form < 3; form++) {
        int sheet = s;
        int as = form;
        if (s != form) {
          Refused.in(State.SOME, "put(" + s + ", " + form + ", 0, 9)", x -> x.put(sheet, as, 0, 9), -13, 3);
        }
      }
    }
    Refused.in(State.FULL, "put(3, 1, 59, 9)", x -> x.put(3, 1, 59, 9), -13, 3);
  }

  private static void indexes() {
    Due.sentence("31: INDEX: there is no such item");
    for (int i : new int[] {-1, 5, 59, 60, Refused.LEAST, Refused.GREATEST}) {
      Refused.in(State.SOME, "put(0, 0, " + i + ", 9)", x -> x.put(0, 0, i, 9), -12, 2);
    }
    for (int i : new int[] {-1, 60, 61, Refused.LEAST, Refused.GREATEST}) {
      Refused.in(State.FULL, "put(2, 2, " + i + ", 9)", x -> x.put(2, 2, i, 9), -12, 2);
    }
    for (int i : new int[] {-1, 0, 1}) {
      Refused.in(State.FAULTY, "put(1, 0, " + i + ", 9) of an empty one", x -> x.put(1, 0, i, 9), -12, 2);
    }
  }

  private static void theFirstThatFits() {
    Due.sentence("31: BAD; NULL; CAST; INDEX: the first that fits");
    Refused.in(State.SOME, "put(4, 3, -1, 9)", x -> x.put(4, 3, -1, 9), -2, 0);
    Refused.in(State.SOME, "put(3, 3, -1, 9)", x -> x.put(3, 3, -1, 9), -2, 0);
    Refused.in(State.SOME, "put(3, 0, -1, 9)", x -> x.put(3, 0, -1, 9), -11, 1);
    Refused.in(State.SOME, "put(0, 1, -1, 9)", x -> x.put(0, 1, -1, 9), -13, 3);
    Refused.in(State.SOME, "put(0, 1, 60, 9)", x -> x.put(0, 1, 60, 9), -13, 3);
  }
}
