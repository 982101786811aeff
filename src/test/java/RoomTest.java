import com.sun.management.ThreadMXBean;
import java.lang.management.ManagementFactory;
import java.lang.reflect.Array;
import java.lang.reflect.Field;
import java.lang.reflect.Modifier;
import java.util.Collections;
import java.util.IdentityHashMap;
import java.util.Set;

/** All calls of one run live in one room: what one object takes of it, and that no call takes more. */
final class RoomTest {
  /** Of some 600,000 objects and 7.3 million fields and elements; so there is room for a thousand of the class, and more. */
  private static final int MOST_OBJECTS = 200, MOST_FIELDS_AND_ELEMENTS = 3000;
  private static final ThreadMXBean MADE = (ThreadMXBean) ManagementFactory.getThreadMXBean();

  private static long fieldsAndElements = 0;

  public static void main(String[] args) throws Exception {
    Set<Object> met = Collections.newSetFromMap(new IdentityHashMap<>());
    count(new HumanPyramid(), met);
    Due.holds("objects of a new one: " + met.size(), met.size() <= MOST_OBJECTS);
    Due.holds("its fields and elements: " + fieldsAndElements, fieldsAndElements <= MOST_FIELDS_AND_ELEMENTS);
    for (State state : State.values()) {
      callsMakeNothing(state);
    }
    Due.end();
  }

  private static void count(Object o, Set<Object> met) throws IllegalAccessException {
    if (o == null || !met.add(o)) {
      return;
    }
    if (o.getClass().isArray()) {
      fieldsAndElements += Array.getLength(o);
      for (int i = 0; !o.getClass().getComponentType().isPrimitive() && i < Array.getLength(o); i++) {
        count(Array.get(o, i), met);
      }
      return;
    }
    for (Field f : o.getClass().getDeclaredFields()) {
      if (!Modifier.isStatic(f.getModifiers())) {
        fieldsAndElements++;
        f.setAccessible(true);
        if (!f.getType().isPrimitive()) {
          count(f.get(o), met);
        }
      }
    }
  }

  private static void callsMakeNothing(State state) {
    allCalls(state.made());
    HumanPyramid x = state.made();
    long me = Thread.currentThread().getId();
    MADE.getThreadAllocatedBytes(me);
    long before = MADE.getThreadAllocatedBytes(me);
    allCalls(x);
    long bytes = MADE.getThreadAllocatedBytes(me) - before;
    Due.due("bytes that calls make, " + state, bytes, 0);
  }

  /** Each call, mostly behind a change, so that no answer is kept from before. */
  private static void allCalls(HumanPyramid x) {
    for (int i = 0; i < 3; i++) {
      looks(x);
      x.back();
      looks(x);
      x.event(i, 2 * i, i);
      looks(x);
      x.undo();
      looks(x);
      x.type(i == 1 ? '1' : '9');
      x.forget();
      looks(x);
      x.seen(i, i, i);
      sheets(x, i);
      x.wipe();
    }
  }

  private static void looks(HumanPyramid x) {
    x.fault();
    x.acrobat(0, 1);
    x.at(5, 0, 1);
    x.stands(5, 4);
    x.tower(5, 1);
    x.sum(1);
    x.top(0);
    x.most(1);
    x.clumsy();
    x.down();
    x.swap(0);
    x.come(0, 0);
    x.train(0);
    x.spare(1);
    x.never();
    x.was(0, 0);
    x.was(0, 1);
    x.ask(0);
    x.chance(5, 23, 0);
    x.years(11, 8, 0);
    x.count(8);
    x.digest();
  }

  private static void sheets(HumanPyramid x, int i) {
    x.lose(i);
    x.get(i, 0, 0);
    x.sheet(i, i, 60);
    x.sheet(3, i, 60);
    x.put(i, i, 5, i);
    x.get(i, i, 5);
    x.copy(i, 0, 3, 10, 30);
    x.write(9, i);
    x.read(3);
  }
}
