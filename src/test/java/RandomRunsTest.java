import java.util.Random;

/** Runs of calls drawn by fixed seeds, each answer held against PlainPyramid's. */
final class RandomRunsTest {
  private static final int RUNS = 400;
  private static final int[] FAR = {Integer.MIN_VALUE, Integer.MIN_VALUE + 1, -100, -11, -3, -2, -1,
      10, 11, 24, 59, 60, 61, 255, 256, 1000, Integer.MAX_VALUE - 1, Integer.MAX_VALUE};

  private final Random random;
  private final HumanPyramid x = new HumanPyramid();
  private final PlainPyramid y = new PlainPyramid();
  private int calls = 0;

  private RandomRunsTest(int seed) {
    random = new Random(seed);
  }

  public static void main(String[] args) {
    for (int seed = 0; seed < RUNS; seed++) {
      new RandomRunsTest(seed).go();
    }
    // the same again as the tests under shared do it: the document's own digest of a new object
    Due.due("new digest()", new HumanPyramid().digest(), new PlainPyramid().digest());
    Due.end();
  }

  private void go() {
    tellText();
    for (int i = random.nextInt(9); i > 0; i--) {
      int kind = random.nextInt(3), moment = random.nextInt(24), number = random.nextInt(10);
      same("event " + kind + " " + moment + " " + number, x.event(kind, moment, number), y.event(kind, moment, number));
    }
    for (int i = 0; i < 150 && calls < 500; i++) {
      call();
    }
    same("digest", x.digest(), y.digest());
  }

  private void same(String call, long got, long want) {
    calls++;
    Due.due(call + " (call " + calls + ")", got, want);
  }

  /** Mostly whole acrobats, strong below and light above, so that towers stand long enough to tell. */
  private void tellText() {
    int n = random.nextInt(11);
    boolean isKind = random.nextInt(3) > 0;
    java.util.List<Integer> places = new java.util.ArrayList<>();
    for (int p = 0; p < 10; p++) places.add(p);
    if (random.nextBoolean()) java.util.Collections.shuffle(places, random);
    StringBuilder text = new StringBuilder();
    for (int a = 0; a < n; a++) {
      int p = places.get(a);
      int strength = isKind ? 9 - random.nextInt(1 + PlainPyramid.ROW[p] * 2) : 1 + random.nextInt(9);
      int weight = isKind ? 1 + random.nextInt(3) : 1 + random.nextInt(9);
      int moment = isKind ? random.nextInt(6) : random.nextInt(24);
      text.append(a == 0 ? "" : ";").append("stc".charAt(random.nextInt(3))).append(weight).append(strength)
          .append((char) ('a' + moment)).append(random.nextInt(60) == 0 ? 0 : p);
    }
    for (char b : text.toString().toCharArray()) {
      int c = random.nextInt(400) == 0 ? random.nextInt(256) : b;
      same("type " + c, x.type(c), y.type(c));
    }
  }

  /** Mostly 0 to bound - 1, now and then far off. */
  private int some(int bound) {
    if (random.nextInt(25) > 0) return random.nextInt(bound);
    return random.nextBoolean() ? FAR[random.nextInt(FAR.length)] : bound;
  }

  private void call() {
    int kind = random.nextInt(100);
    if (kind < 12) tell();
    else if (kind < 45) lookAtMoments();
    else if (kind < 55) plan();
    else if (kind < 75) guess();
    else sheets();
  }

  private void tell() {
    int a = some(3), b = some(24), c = some(10);
    switch (random.nextInt(7)) {
      case 0: same("type " + b, x.type(b), y.type(b)); return;
      case 1: same("undo", x.undo(), y.undo()); return;
      case 2: same("event " + a + " " + b + " " + c, x.event(a, b, c), y.event(a, b, c)); return;
      case 3: same("back", x.back(), y.back()); return;
      case 4: same("read " + a, x.read(a), y.read(a)); return;
      case 5:
        if (random.nextInt(3) > 0 || calls > 350) return;
        same("wipe", x.wipe(), y.wipe());
        tellText();
        return;
      default: same("fault", x.fault(), y.fault()); return;
    }
  }

  private void lookAtMoments() {
    int m = some(24), a = some(10), what = some(5);
    switch (random.nextInt(10)) {
      case 0: same("acrobat " + a + " " + what, x.acrobat(a, what), y.acrobat(a, what)); return;
      case 1: case 2: case 3: same("at " + m + " " + a + " " + what, x.at(m, a, what), y.at(m, a, what)); return;
      case 4: same("stands " + m + " " + a, x.stands(m, a), y.stands(m, a)); return;
      case 5: same("tower " + m + " " + what / 2, x.tower(m, what / 2), y.tower(m, what / 2)); return;
      case 6: same("sum " + what / 2, x.sum(what / 2), y.sum(what / 2)); return;
      case 7: same("top " + what / 2, x.top(what / 2), y.top(what / 2)); return;
      case 8: same("most " + what / 2, x.most(what / 2), y.most(what / 2)); return;
      default:
        same("clumsy", x.clumsy(), y.clumsy());
        same("down", x.down(), y.down());
        return;
    }
  }

  private void plan() {
    int a = some(10), what = some(3);
    switch (random.nextInt(4)) {
      case 0: same("swap " + what, x.swap(what), y.swap(what)); return;
      case 1: same("come " + a + " " + what, x.come(a, what), y.come(a, what)); return;
      case 2: same("train " + what, x.train(what), y.train(what)); return;
      default: same("spare " + (what - 1), x.spare(what - 1), y.spare(what - 1)); return;
    }
  }

  private void guess() {
    int m = some(24), p = some(10), a = some(11), what = some(2);
    switch (random.nextInt(9)) {
      case 0: same("seen " + m + " " + p + " " + a, x.seen(m, p, a), y.seen(m, p, a)); return;
      case 1: {
        // what was really so, or there would soon be nothing that fits
        int who = y.stands(m, p);
        int told = who == -1 ? 10 : who;
        same("seen " + m + " " + p + " " + told, x.seen(m, p, told), y.seen(m, p, told));
        return;
      }
      case 2: same("forget", x.forget(), y.forget()); return;
      case 3: same("never", x.never(), y.never()); return;
      case 4: same("was " + a + " " + what, x.was(a, what), y.was(a, what)); return;
      case 5: same("ask " + a, x.ask(a), y.ask(a)); return;
      case 6: {
        int c = some(17);
        same("chance " + c + " " + m + " " + what, x.chance(c, m, what), y.chance(c, m, what));
        return;
      }
      default: {
        int seed = random.nextInt(), n = some(9);
        same("years " + seed + " " + n + " " + what, x.years(seed, n, what), y.years(seed, n, what));
        return;
      }
    }
  }

  private void sheets() {
    int s = some(4), form = random.nextInt(4) > 0 ? s % 3 : some(3), i = some(12), t = some(4), j = some(12), n = some(6);
    switch (random.nextInt(9)) {
      case 0: {
        int size = random.nextInt(5) == 0 ? some(61) : some(14);
        same("sheet " + s + " " + form + " " + size, x.sheet(s, form, size), y.sheet(s, form, size));
        return;
      }
      case 1:
        if (random.nextInt(3) == 0) same("lose " + s, x.lose(s), y.lose(s));
        return;
      case 2: case 3: {
        int v = random.nextBoolean() ? random.nextInt(10) : random.nextInt();
        same("put " + s + " " + form + " " + i + " " + v, x.put(s, form, i, v), y.put(s, form, i, v));
        return;
      }
      case 4: case 5: same("get " + s + " " + form + " " + i, x.get(s, form, i), y.get(s, form, i)); return;
      case 6: same("copy " + s + " " + i + " " + t + " " + j + " " + n, x.copy(s, i, t, j, n), y.copy(s, i, t, j, n)); return;
      case 7: {
        int m = some(24);
        same("write " + m + " " + s, x.write(m, s), y.write(m, s));
        return;
      }
      default: {
        int what = some(9);
        same("count " + what, x.count(what), y.count(what));
        return;
      }
    }
  }
}
