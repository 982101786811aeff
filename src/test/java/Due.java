/** What a test of this project shares: answers against those that are due. */
final class Due {
  private static int wrong = 0;
  private static int looked = 0;
  private static String sentence = "";

  private Due() {
  }

  /** The sentence of the document that what follows is about, told with every answer that is not as due. */
  static void sentence(String words) {
    sentence = "[" + words + "] ";
  }

  static void due(String call, long got, long want) {
    looked++;
    if (got != want) {
      wrong++;
      System.out.println(sentence + call + " answered " + got + ", due is " + want);
    }
  }

  static void holds(String what, boolean itDoes) {
    due(what, itDoes ? 1 : 0, 1);
  }

  /** A new object to which a text was typed. */
  static HumanPyramid told(String text) {
    HumanPyramid x = new HumanPyramid();
    typeAll(x, text);
    return x;
  }

  static void typeAll(HumanPyramid x, String text) {
    int before = x.count(1);
    for (int i = 0; i < text.length(); i++) {
      due("type(" + (int) text.charAt(i) + ") in " + text, x.type(text.charAt(i)), before + i + 1);
    }
  }

  /** A new SHEET of a FORM with these items. */
  static void fill(HumanPyramid x, int s, int form, int... items) {
    due("sheet(" + s + ", " + form + ", " + items.length + ")", x.sheet(s, form, items.length), items.length);
    for (int i = 0; i < items.length; i++) {
      due("put(" + s + ", " + form + ", " + i + ", " + items[i] + ")", x.put(s, form, i, items[i]), 1);
    }
  }

  static void end() {
    System.out.println(wrong == 0 ? looked + " answers are as due" : wrong + " of " + looked + " answers are not as due");
    if (wrong != 0) {
      System.exit(1);
    }
  }
}
