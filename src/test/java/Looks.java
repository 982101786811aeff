import java.util.ArrayList;
import java.util.List;

/**
 * All that can be asked of an object, so that two can be held against each other. Asking undoes what was told,
 * so each page is asked of an object made anew; with what made it that stays within an object's 512 calls.
 */
final class Looks {
  interface Make {
    HumanPyramid made();
  }

  interface Call {
    long on(HumanPyramid x);
  }

  private record Answer(String call, long value) {
  }

  private static final int TEXT = 0, SUMS = 1, PLANS = 2, SEEN = 3, EVENTS = 4, SHEETS = 5, STANDS = 6, AT = 7;
  private static final int PAGES = 10;

  private final List<List<Answer>> pages = new ArrayList<>();
  private List<Answer> page;

  private Looks() {
  }

  static Looks at(Make make) {
    Looks looks = new Looks();
    for (int n = 0; n < PAGES; n++) {
      looks.page = new ArrayList<>();
      looks.pages.add(looks.page);
      looks.read(n, make.made());
    }
    return looks;
  }

  /** Every answer is the same, but for that of count(8). */
  static void same(String what, Looks one, Looks other) {
    for (int n = 0; n < PAGES; n++) {
      samePage(what, n, one, other);
    }
  }

  static void same(String what, Make one, Make other) {
    same(what, at(one), at(other));
    Due.due(what + ": count(8)", one.made().count(8), other.made().count(8));
  }

  /** Every answer is the same, but for what tells of the bytes of the text alone (and the digest, which has them in it). */
  static void sameButForTheBytes(String what, Make one, Make other) {
    Looks first = at(one);
    Looks second = at(other);
    for (int n = 0; n < PAGES; n++) {
      if (n != TEXT) {
        samePage(what, n, first, second);
      }
    }
  }

  private static void samePage(String what, int n, Looks one, Looks other) {
    List<Answer> got = one.pages.get(n);
    List<Answer> want = other.pages.get(n);
    Due.due(what + ": answers on page " + n, got.size(), want.size());
    for (int i = 0; i < Math.min(got.size(), want.size()); i++) {
      Due.due(what + ": then " + got.get(i).call, got.get(i).value, want.get(i).value);
    }
  }

  private void ask(String call, long value) {
    page.add(new Answer(call, value));
  }

  private void read(int n, HumanPyramid x) {
    switch (n) {
      case TEXT: text(x); return;
      case SUMS: sums(x); return;
      case PLANS: plans(x); return;
      case SEEN: seen(x); return;
      case EVENTS: events(x); return;
      case SHEETS: sheets(x); return;
      case STANDS: stands(x); return;
      default: eightMoments(x, 8 * (n - AT)); return;
    }
  }

  private void text(HumanPyramid x) {
    ask("count(1)", x.count(1));
    ask("fault()", x.fault());
    ask("digest()", x.digest());
    for (int left = 60; left > 0; left--) {
      ask("undo()", x.undo());
      ask("fault()", x.fault());
      ask("count(0)", x.count(0));
    }
    ask("wipe()", x.wipe());
  }

  private void sums(HumanPyramid x) {
    for (int what : new int[] {0, 2, 3, 4, 5, 6, 7}) {
      ask("count(" + what + ")", x.count(what));
    }
    for (int a = 0; a < 10; a++) {
      for (int what = 0; what < 5; what++) {
        ask("acrobat(" + a + ", " + what + ")", x.acrobat(a, what));
      }
    }
    for (int what = 0; what < 2; what++) {
      ask("sum(" + what + ")", x.sum(what));
      ask("top(" + what + ")", x.top(what));
      ask("most(" + what + ")", x.most(what));
      ask("years(3, 8, " + what + ")", x.years(3, 8, what));
      for (int m = 0; m < 24; m += 5) {
        ask("chance(3, " + m + ", " + what + ")", x.chance(3, m, what));
      }
    }
    ask("clumsy()", x.clumsy());
    ask("down()", x.down());
  }

  private void plans(HumanPyramid x) {
    for (int what = 0; what < 3; what++) {
      ask("swap(" + what + ")", x.swap(what));
      ask("spare(" + (what - 1) + ")", x.spare(what - 1));
    }
    for (int what = 0; what < 2; what++) {
      ask("train(" + what + ")", x.train(what));
      for (int a = 0; a < 10; a++) {
        ask("come(" + a + ", " + what + ")", x.come(a, what));
      }
    }
  }

  private void seen(HumanPyramid x) {
    guesses(x);
    ask("forget()", x.forget());
    guesses(x);
  }

  private void guesses(HumanPyramid x) {
    ask("never()", x.never());
    for (int a = 0; a < 10; a++) {
      ask("was(" + a + ", 0)", x.was(a, 0));
      ask("was(" + a + ", 1)", x.was(a, 1));
      ask("ask(" + a + ")", x.ask(a));
    }
  }

  private void events(HumanPyramid x) {
    for (int left = 9; left > 0; left--) {
      ask("sum(0)", x.sum(0));
      ask("sum(1)", x.sum(1));
      ask("never()", x.never());
      ask("chance(7, 23, 0)", x.chance(7, 23, 0));
      ask("back()", x.back());
    }
  }

  private void sheets(HumanPyramid x) {
    for (int s = 0; s < 4; s++) {
      for (int form = 0; form < 3; form++) {
        // a FINDING that get() never makes, so that count(8) tells what get() found, or that it found nothing
        x.sheet(0, 0, -1);
        ask("get(" + s + ", " + form + ", 0)", x.get(s, form, 0));
        int found = x.count(8);
        ask("count(8)", found);
        for (int i = 1; i < 60 && found == 5; i++) {
          ask("get(" + s + ", " + form + ", " + i + ")", x.get(s, form, i));
        }
      }
      ask("lose(" + s + ")", x.lose(s));
    }
  }

  private void stands(HumanPyramid x) {
    for (int m = 0; m < 24; m++) {
      for (int p = 0; p < 10; p++) {
        ask("stands(" + m + ", " + p + ")", x.stands(m, p));
      }
      ask("tower(" + m + ", 0)", x.tower(m, 0));
      ask("tower(" + m + ", 1)", x.tower(m, 1));
    }
  }

  private void eightMoments(HumanPyramid x, int from) {
    for (int m = from; m < from + 8; m++) {
      for (int a = 0; a < 10; a++) {
        for (int what = 0; what < 4; what++) {
          ask("at(" + m + ", " + a + ", " + what + ")", x.at(m, a, what));
        }
      }
    }
  }
}
