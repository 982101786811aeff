import java.util.EnumMap;
import java.util.Map;

/** A refused call: its answer, and that nothing has changed behind it (but count(8), by a FINDING). */
final class Refused {
  static final int LEAST = Integer.MIN_VALUE, GREATEST = Integer.MAX_VALUE;
  static final int NO_FINDING = 0;

  private static final Map<State, Looks> BEFORE = new EnumMap<>(State.class);

  private Refused() {
  }

  static void in(State state, String call, Looks.Call c, long answer, int finding) {
    String what = call + " in " + state;
    HumanPyramid x = state.made();
    int latest = x.count(8);
    Due.due(what, c.on(x), answer);
    Due.due(what + ": then count(8)", x.count(8), finding == NO_FINDING ? latest : finding);
    Due.due("once more " + what, c.on(x), answer);
    // of one whose answers are worked out already, too
    HumanPyramid y = state.made();
    long digest = y.digest();
    c.on(y);
    Due.due(what + ": then digest() again", y.digest(), digest);
    Looks before = BEFORE.computeIfAbsent(state, s -> Looks.at(s::made));
    Looks.same(what, Looks.at(() -> behind(state, c)), before);
  }

  private static HumanPyramid behind(State state, Looks.Call c) {
    HumanPyramid x = state.made();
    c.on(x);
    return x;
  }

  /** No FINDING, and the same whatever was told before. */
  static void everywhere(String call, Looks.Call c, long answer) {
    for (State state : State.values()) {
      in(state, call, c, answer, NO_FINDING);
    }
  }

  static void bad(String call, Looks.Call c) {
    everywhere(call, c, HumanPyramid.BAD);
  }
}
