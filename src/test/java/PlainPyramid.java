import java.math.BigInteger;
import java.util.ArrayList;
import java.util.Arrays;
import java.util.HashMap;
import java.util.List;
import java.util.Map;

/**
 * The document once more, as literally as the Java library lets one say it, without any answer kept:
 * what HumanPyramid is held against in RandomRunsTest.
 */
final class PlainPyramid {
  static final int NONE = -1, BAD = -2, NOT = -3, FULL = -4;
  static final int[][] BELOW = {{}, {}, {}, {}, {0, 1}, {1, 2}, {2, 3}, {4, 5}, {5, 6}, {7, 8}};
  static final int[] ROW = {0, 0, 0, 0, 1, 1, 1, 2, 2, 3};

  record Acrobat(char sort, int weight, int strength, int moment, int place) {
    Acrobat heavy(int w) { return new Acrobat(sort, w, strength, moment, place); }
    Acrobat strong(int s) { return new Acrobat(sort, weight, s, moment, place); }
    Acrobat coming(int m) { return new Acrobat(sort, weight, strength, m, place); }
    Acrobat placed(int p) { return new Acrobat(sort, weight, strength, moment, p); }
  }

  record Event(int kind, int moment, int number) {
  }

  record Sight(int moment, int place, int acrobat) {
  }

  private final StringBuilder text = new StringBuilder();
  private final List<Event> events = new ArrayList<>();
  private final List<Sight> sights = new ArrayList<>();
  private final Object[] sheets = new Object[4];
  private int latest = 0;

  /** Behind each MOMENT: who stands where, and what each is, bears, how TIRED one is, how often one FELL. */
  static final class Run {
    final int[][] who = new int[24][10];
    final int[][][] facts = new int[24][10][4];
    int standing = 0;
    int falls = 0;
    int firstFall = 24;
  }

  static final class One {
    boolean stands;
    int tired;
    int fell;
    int fellIn = -100;
  }

  static Run run(List<Acrobat> acrobats, List<Event> events) {
    Run run = new Run();
    Map<Integer, One> ones = new HashMap<>();
    for (int a = 0; a < acrobats.size(); a++) {
      ones.put(a, new One());
    }
    for (int m = 0; m < 24; m++) {
      for (Event e : events) {
        if (e.moment != m) {
          continue;
        }
        if (e.kind == 0 && e.number < acrobats.size() && ones.get(e.number).stands) {
          fall(run, acrobats, ones, List.of(e.number), m);
        }
        if (e.kind == 1) {
          for (One one : ones.values()) {
            if (one.stands) {
              one.tired = one.tired < 3 ? 0 : one.tired - 3;
            }
          }
        }
      }
      for (int a = 0; a < acrobats.size(); a++) {
        One one = ones.get(a);
        boolean isThere = acrobats.get(a).moment <= m;
        boolean isHeld = events.contains(new Event(2, m, a));
        boolean lies = m - one.fellIn <= 2;
        if (!one.stands && isThere && !isHeld && !lies) {
          boolean canStand = true;
          for (int below : BELOW[acrobats.get(a).place]) {
            canStand &= standsAt(acrobats, ones, below) != NONE;
          }
          one.stands = canStand;
        }
      }
      List<Integer> giving = new ArrayList<>();
      int[] loads = new int[10];
      for (int a = 0; a < acrobats.size(); a++) {
        One one = ones.get(a);
        if (!one.stands) {
          continue;
        }
        Acrobat acrobat = acrobats.get(a);
        loads[a] = load(acrobats, ones, acrobat.place);
        int by = Math.floorDiv(loads[a], 8);
        one.tired += acrobat.sort == 's' ? by : acrobat.sort == 't' ? by + 1 : by == 0 ? 0 : by - 1;
        if (one.tired > 4 * acrobat.strength || loads[a] > 16 * acrobat.strength) {
          giving.add(a);
        }
      }
      fall(run, acrobats, ones, giving, m);
      for (int p = 0; p < 10; p++) {
        run.who[m][p] = standsAt(acrobats, ones, p);
        run.standing += run.who[m][p] == NONE ? 0 : 1;
      }
      for (int a = 0; a < acrobats.size(); a++) {
        One one = ones.get(a);
        int[] facts = run.facts[m][a];
        facts[0] = acrobats.get(a).moment > m ? 0 : one.stands ? 2 : m - one.fellIn <= 2 ? 3 : 1;
        facts[1] = loads[a];
        facts[2] = one.tired;
        facts[3] = one.fell;
      }
    }
    return run;
  }

  static int standsAt(List<Acrobat> acrobats, Map<Integer, One> ones, int place) {
    for (int a = 0; a < acrobats.size(); a++) {
      if (acrobats.get(a).place == place && ones.get(a).stands) {
        return a;
      }
    }
    return NONE;
  }

  static int load(List<Acrobat> acrobats, Map<Integer, One> ones, int place) {
    int load = 0;
    for (int above = 4; above < 10; above++) {
      int a = standsAt(acrobats, ones, above);
      if (a != NONE && (BELOW[above][0] == place || BELOW[above][1] == place)) {
        int both = 8 * acrobats.get(a).weight + load(acrobats, ones, above);
        if (both % 2 != 0) {
          throw new IllegalStateException("half of an odd number of eighths");
        }
        load += both / 2;
      }
    }
    return load;
  }

  static void fall(Run run, List<Acrobat> acrobats, Map<Integer, One> ones, List<Integer> first, int m) {
    List<Integer> open = new ArrayList<>(first);
    while (!open.isEmpty()) {
      int a = open.remove(0);
      One one = ones.get(a);
      if (!one.stands) {
        continue;
      }
      one.stands = false;
      one.tired = 0;
      one.fell++;
      one.fellIn = m;
      run.falls++;
      run.firstFall = Math.min(run.firstFall, m);
      for (int above = 4; above < 10; above++) {
        int on = standsAt(acrobats, ones, above);
        int place = acrobats.get(a).place;
        if (on != NONE && (BELOW[above][0] == place || BELOW[above][1] == place)) {
          open.add(on);
        }
      }
    }
  }

  List<Acrobat> acrobats() {
    List<Acrobat> list = new ArrayList<>();
    if (fault() == NONE) {
      for (String one : text.toString().split(";")) {
        if (!one.isEmpty()) {
          list.add(new Acrobat(one.charAt(0), one.charAt(1) - '0', one.charAt(2) - '0', one.charAt(3) - 'a', one.charAt(4) - '0'));
        }
      }
    }
    return list;
  }

  Run run() {
    return run(acrobats(), events);
  }

  int type(int b) {
    if (b < 0 || b > 255) return BAD;
    if (text.length() == 59) return FULL;
    text.append((char) b);
    return text.length();
  }

  int wipe() {
    int n = text.length();
    text.setLength(0);
    return n;
  }

  int undo() {
    if (text.length() == 0) return NOT;
    text.setLength(text.length() - 1);
    return text.length();
  }

  int fault() {
    String[] may = {"stc", "123456789", "123456789", "abcdefghijklmnopqrstuvwx", "0123456789", ";"};
    StringBuilder places = new StringBuilder();
    for (int i = 0; i < text.length(); i++) {
      char b = text.charAt(i);
      if (may[i % 6].indexOf(b) < 0) return i;
      if (i % 6 == 4 && places.indexOf("" + b) >= 0) return i;
      if (i % 6 == 4) places.append(b);
      if (i == 60) return i;
    }
    return text.length() == 0 || text.length() % 6 == 5 ? NONE : text.length();
  }

  int acrobat(int a, int what) {
    List<Acrobat> all = acrobats();
    if (a < 0 || a >= all.size() || what < 0 || what > 4) return BAD;
    Acrobat one = all.get(a);
    return new int[] {"stc".indexOf(one.sort), one.weight, one.strength, one.moment, one.place}[what];
  }

  int event(int kind, int moment, int number) {
    if (kind < 0 || kind > 2 || moment < 0 || moment > 23 || number < 0 || number > 9) return BAD;
    if (events.size() == 8) return FULL;
    events.add(new Event(kind, moment, number));
    return events.size();
  }

  int back() {
    if (events.isEmpty()) return NOT;
    events.remove(events.size() - 1);
    return events.size();
  }

  int read(int s) {
    if (s < 0 || s > 3) return BAD;
    if (sheets[s] == null) return finding(1);
    int came = 0;
    for (int i = 0; 3 * i + 3 <= length(sheets[s]); i++) {
      Object from = sheets[s];
      if (event(item(from, 3 * i), item(from, 3 * i + 1), item(from, 3 * i + 2)) < 0) return came;
      came++;
    }
    return came;
  }

  int at(int moment, int a, int what) {
    if (moment < 0 || moment > 23 || a < 0 || a >= acrobats().size() || what < 0 || what > 3) return BAD;
    return run().facts[moment][a][what];
  }

  int stands(int moment, int place) {
    if (moment < 0 || moment > 23 || place < 0 || place > 9) return BAD;
    return run().who[moment][place];
  }

  static int howMany(int[] who) {
    return (int) Arrays.stream(who).filter(a -> a != NONE).count();
  }

  int tower(int moment, int what) {
    if (moment < 0 || moment > 23 || what < 0 || what > 1) return BAD;
    int[] who = run().who[moment];
    boolean[] rows = new boolean[4];
    for (int p = 0; p < 10; p++) {
      rows[ROW[p]] |= who[p] != NONE;
    }
    int high = 0;
    for (boolean row : rows) {
      high += row ? 1 : 0;
    }
    return what == 0 ? howMany(who) : high;
  }

  int sum(int what) {
    if (what < 0 || what > 1) return BAD;
    return what == 0 ? run().standing : run().falls;
  }

  int top(int what) {
    if (what < 0 || what > 1) return BAD;
    Run run = run();
    List<Integer> moments = new ArrayList<>();
    for (int m = 0; m < 24; m++) {
      if (run.who[m][9] != NONE) moments.add(m);
    }
    return what == 1 ? moments.size() : moments.isEmpty() ? NONE : moments.get(0);
  }

  int most(int what) {
    if (what < 0 || what > 1) return BAD;
    Run run = run();
    for (int n = 10; n >= 0; n--) {
      for (int m = 0; m < 24; m++) {
        if (howMany(run.who[m]) == n) return what == 0 ? n : m;
      }
    }
    throw new IllegalStateException("no MOST");
  }

  int clumsy() {
    Run run = run();
    for (int often = 24; often > 0; often--) {
      for (int a = 0; a < acrobats().size(); a++) {
        if (run.facts[23][a][3] == often) return a;
      }
    }
    return NONE;
  }

  int down() {
    Run run = run();
    int bits = 0;
    for (int a = 0; a < acrobats().size(); a++) {
      boolean ever = false;
      for (int m = 0; m < 24; m++) {
        ever |= run.facts[m][a][0] == 2;
      }
      bits += ever ? 0 : 1 << a;
    }
    return bits;
  }

  int swap(int what) {
    if (what < 0 || what > 2) return BAD;
    List<Acrobat> all = acrobats();
    int[] best = {NONE, NONE, NONE};
    for (int a = 0; a < all.size(); a++) {
      for (int b = a + 1; b < all.size(); b++) {
        List<Acrobat> other = new ArrayList<>(all);
        other.set(a, all.get(a).placed(all.get(b).place));
        other.set(b, all.get(b).placed(all.get(a).place));
        int much = run(other, events).standing;
        if (much > best[2]) best = new int[] {a, b, much};
      }
    }
    return best[what];
  }

  int come(int a, int what) {
    List<Acrobat> all = acrobats();
    if (a < 0 || a >= all.size() || what < 0 || what > 1) return BAD;
    int[] best = {NONE, NONE};
    for (int m = 0; m < 24; m++) {
      List<Acrobat> other = new ArrayList<>(all);
      other.set(a, all.get(a).coming(m));
      int much = run(other, events).standing;
      if (much > best[1]) best = new int[] {m, much};
    }
    return best[what];
  }

  int train(int what) {
    if (what < 0 || what > 1) return BAD;
    List<Acrobat> all = acrobats();
    int[] best = {NONE, NONE};
    for (int a = 0; a < all.size(); a++) {
      List<Acrobat> other = new ArrayList<>(all);
      int strength = all.get(a).strength;
      other.set(a, all.get(a).strong(strength == 9 ? 9 : strength + 1));
      int much = run(other, events).standing;
      if (much > best[1]) best = new int[] {a, much};
    }
    return best[what];
  }

  private List<Event> without(int... gone) {
    List<Event> left = new ArrayList<>();
    for (int i = 0; i < events.size(); i++) {
      boolean stays = true;
      for (int g : gone) {
        stays &= g != i;
      }
      if (stays) left.add(events.get(i));
    }
    return left;
  }

  private int[] spared() {
    List<Acrobat> all = acrobats();
    if (run(all, events).falls == 0) return new int[0];
    for (int i = 0; i < events.size(); i++) {
      if (run(all, without(i)).falls == 0) return new int[] {i};
    }
    for (int i = 0; i < events.size(); i++) {
      for (int j = i + 1; j < events.size(); j++) {
        if (run(all, without(i, j)).falls == 0) return new int[] {i, j};
      }
    }
    return null;
  }

  int spare(int i) {
    if (i < -1 || i > 1) return BAD;
    int[] spared = spared();
    if (spared == null) return NONE;
    return i == -1 ? spared.length : i < spared.length ? spared[i] : NONE;
  }

  int seen(int moment, int place, int a) {
    if (moment < 0 || moment > 23 || place < 0 || place > 9 || a < 0 || a > 10) return BAD;
    if (sights.size() == 8) return FULL;
    sights.add(new Sight(moment, place, a));
    return sights.size();
  }

  int forget() {
    int n = sights.size();
    sights.clear();
    return n;
  }

  private boolean comesOut(Run run) {
    for (Sight sight : sights) {
      int who = run.who[sight.moment][sight.place];
      if ((who == NONE ? 10 : who) != sight.acrobat) return false;
    }
    return true;
  }

  int never() {
    int bits = 0;
    for (int i = 0; i < events.size(); i++) {
      bits += comesOut(run(acrobats(), without(i))) ? 1 << i : 0;
    }
    return bits;
  }

  int was(int a, int what) {
    List<Acrobat> all = acrobats();
    if (a < 0 || a >= all.size() || what < 0 || what > 1) return BAD;
    int bits = 0;
    for (int v = 1; v <= 9; v++) {
      List<Acrobat> other = new ArrayList<>(all);
      other.set(a, what == 0 ? all.get(a).strong(v) : all.get(a).heavy(v));
      bits += comesOut(run(other, events)) ? 1 << v : 0;
    }
    return bits;
  }

  int ask(int a) {
    List<Acrobat> all = acrobats();
    if (a < 0 || a >= all.size()) return BAD;
    List<Run> runs = new ArrayList<>();
    for (int v = 1; v <= 9; v++) {
      List<Acrobat> other = new ArrayList<>(all);
      other.set(a, all.get(a).strong(v));
      Run run = run(other, events);
      if (comesOut(run)) runs.add(run);
    }
    int best = NONE;
    int least = 100;
    for (int m = 0; m < 24; m++) {
      Map<String, Integer> alike = new HashMap<>();
      int greatest = 0;
      for (Run run : runs) {
        greatest = Math.max(greatest, alike.merge(Arrays.toString(run.who[m]), 1, Integer::sum));
      }
      if (greatest < least) {
        best = m;
        least = greatest;
      }
    }
    return best;
  }

  long chance(int c, int moment, int what) {
    if (c < 0 || c > 16 || moment < 0 || moment > 23 || what < 0 || what > 1) return Long.MIN_VALUE + 2;
    List<Acrobat> all = acrobats();
    BigInteger above = BigInteger.ZERO;
    for (int bits = 0; bits < 1 << events.size(); bits++) {
      List<Event> those = new ArrayList<>();
      BigInteger share = BigInteger.ONE;
      for (int i = 0; i < events.size(); i++) {
        boolean is = (bits & 1 << i) != 0;
        if (is) those.add(events.get(i));
        share = share.multiply(BigInteger.valueOf(is ? c : 16 - c));
      }
      if (share.signum() > 0 && run(all, those).firstFall <= moment) above = above.add(share);
    }
    BigInteger below = BigInteger.valueOf(16).pow(events.size());
    BigInteger common = above.gcd(below);
    return (what == 0 ? above : below).divide(common).longValueExact();
  }

  int years(int seed, int n, int what) {
    if (n < 0 || n > 8 || what < 0 || what > 1) return BAD;
    List<Acrobat> all = acrobats();
    List<Event> drawn = new ArrayList<>();
    long now = seed;
    for (int i = 0; i < n && !all.isEmpty(); i++) {
      int[] lots = new int[3];
      int[] of = {3, 24, all.size()};
      for (int k = 0; k < 3; k++) {
        // the same as ints that wrap, told from 0 on
        now = Math.floorMod(1103515245L * now + 12345L, 1L << 32);
        lots[k] = (int) (now / 65536 % of[k]);
      }
      drawn.add(new Event(lots[0], lots[1], lots[2]));
    }
    Run run = run(all, drawn);
    return what == 0 ? run.standing : run.falls;
  }

  private int finding(int number) {
    latest = number;
    return -10 - number;
  }

  private static int length(Object row) {
    return java.lang.reflect.Array.getLength(row);
  }

  private static int item(Object row, int i) {
    return java.lang.reflect.Array.getInt(row, i);
  }

  private static int form(Object row) {
    return row instanceof byte[] ? 0 : row instanceof short[] ? 1 : 2;
  }

  private static void setItem(Object row, int i, int v) {
    if (row instanceof byte[] bytes) bytes[i] = (byte) v;
    if (row instanceof short[] shorts) shorts[i] = (short) v;
    if (row instanceof int[] ints) ints[i] = v;
  }

  int sheet(int s, int form, int n) {
    if (s < 0 || s > 3 || form < 0 || form > 2 || n > 60) return BAD;
    if (n < 0) return finding(5);
    sheets[s] = form == 0 ? new byte[n] : form == 1 ? new short[n] : new int[n];
    return n;
  }

  int lose(int s) {
    if (s < 0 || s > 3) return BAD;
    if (sheets[s] == null) return finding(1);
    int n = length(sheets[s]);
    sheets[s] = null;
    return n;
  }

  int put(int s, int form, int i, int v) {
    if (s < 0 || s > 3 || form < 0 || form > 2) return BAD;
    if (sheets[s] == null) return finding(1);
    if (form(sheets[s]) != form) return finding(3);
    if (i < 0 || i >= length(sheets[s])) return finding(2);
    setItem(sheets[s], i, v);
    return 1;
  }

  int get(int s, int form, int i) {
    if (s < 0 || s > 3 || form < 0 || form > 2) return Integer.MIN_VALUE;
    if (sheets[s] == null) finding(1);
    else if (form(sheets[s]) != form) finding(3);
    else if (i < 0 || i >= length(sheets[s])) finding(2);
    else return item(sheets[s], i);
    return Integer.MIN_VALUE;
  }

  int copy(int s, int i, int t, int j, int n) {
    if (s < 0 || s > 3 || t < 0 || t > 3) return BAD;
    if (sheets[s] == null || sheets[t] == null) return finding(1);
    if (form(sheets[s]) != form(sheets[t])) return finding(4);
    if (i < 0 || j < 0 || n < 0 || (long) i + n > length(sheets[s]) || (long) j + n > length(sheets[t])) return finding(2);
    int[] were = new int[n];
    for (int k = 0; k < n; k++) {
      were[k] = item(sheets[s], i + k);
    }
    for (int k = 0; k < n; k++) {
      setItem(sheets[t], j + k, were[k]);
    }
    return 1;
  }

  int write(int moment, int s) {
    if (moment < 0 || moment > 23 || s < 0 || s > 3) return BAD;
    if (sheets[s] == null) return finding(1);
    int n = Math.min(10, length(sheets[s]));
    for (int p = 0; p < n; p++) {
      setItem(sheets[s], p, run().who[moment][p]);
    }
    return n;
  }

  int count(int what) {
    switch (what) {
      case 0: return acrobats().size();
      case 1: return text.length();
      case 2: return events.size();
      case 3: return sum(0);
      case 4: return sum(1);
      case 5: return tower(23, 0);
      case 6: return tower(23, 1);
      case 7: return sights.size();
      case 8: return latest;
      default: return BAD;
    }
  }

  long digest() {
    List<Long> all = new ArrayList<>();
    for (int i = 0; i <= 7; i++) all.add((long) count(i));
    all.add((long) fault());
    for (int m = 0; m <= 23; m++) {
      all.addAll(List.of((long) tower(m, 0), (long) tower(m, 1), (long) stands(m, 0), (long) stands(m, 5)));
    }
    for (int a = 0; a < acrobats().size(); a++) {
      for (int i = 0; i <= 4; i++) all.add((long) acrobat(a, i));
      for (int m : List.of(0, 4, 10, 17, 23)) {
        for (int i = 0; i <= 3; i++) all.add((long) at(m, a, i));
      }
      all.addAll(List.of((long) come(a, 0), (long) come(a, 1), (long) was(a, 0), (long) was(a, 1), (long) ask(a)));
    }
    all.addAll(List.of(chance(5, 5, 0), chance(5, 5, 1), chance(5, 15, 0), chance(5, 15, 1)));
    all.addAll(List.of((long) top(0), (long) top(1), (long) most(0), (long) most(1), (long) clumsy(), (long) down()));
    all.addAll(List.of((long) swap(0), (long) swap(1), (long) swap(2), (long) train(0), (long) train(1)));
    all.addAll(List.of((long) spare(NONE), (long) spare(0), (long) never(), (long) years(7, 6, 0), (long) years(7, 6, 1)));
    long h = 17;
    for (long x : all) {
      h = 31 * h + x;
    }
    return h;
  }
}
