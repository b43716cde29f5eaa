import com.sun.management.ThreadMXBean;
import java.lang.management.ManagementFactory;
import java.lang.reflect.Array;
import java.lang.reflect.Field;
import java.lang.reflect.Modifier;
import java.util.ArrayDeque;
import java.util.Collections;
import java.util.Deque;
import java.util.IdentityHashMap;
import java.util.Set;

/** What a run makes is counted (LANGUAGE.md, rule 12): rows are made with the object, and later calls make none. */
public final class RoomTest {
  private static final int MOST_OBJECTS = 60;
  private static final int MOST_ELEMENTS = 6000;
  /** The machine now and then makes something of its own, but not each time. */
  private static final int ATTEMPTS = 8;

  private static final Checks checks = new Checks("RoomTest");
  private static final ThreadMXBean THREADS = (ThreadMXBean) ManagementFactory.getThreadMXBean();
  private static int objects;
  private static int elements;
  private static int sum;

  public static void main(String[] args) throws IllegalAccessException {
    NulledForest x = new NulledForest();
    count(x);
    System.out.println("a new object: " + objects + " objects and arrays, " + elements + " fields and elements");
    checks.says("What a run makes is counted");
    checks.due("whether a new object is small", objects <= MOST_OBJECTS && elements <= MOST_ELEMENTS, true);
    int objectsBefore = objects;
    int elementsBefore = elements;
    everyCall(x);
    count(x);
    checks.says("keep it small");
    checks.due("objects behind all calls", objects, objectsBefore);
    checks.due("elements behind all calls", elements, elementsBefore);
    for (World world : World.all()) {
      made(world);
    }
    checks.due("whether the calls answered", sum != 0, true);
    checks.end();
  }

  /** What calls make on their way and leave again counts too. */
  private static void made(World world) {
    checks.says("keep it small");
    NulledForest x = new NulledForest();
    long least = Long.MAX_VALUE;
    for (int n = 0; n < ATTEMPTS; n++) {
      world.make(x);
      long before = THREADS.getCurrentThreadAllocatedBytes();
      everyCall(x);
      least = Math.min(least, THREADS.getCurrentThreadAllocatedBytes() - before);
    }
    checks.due(world.name() + ": bytes that calls made", (int) least, 0);
  }

  private static void everyCall(NulledForest x) {
    sum += x.states() + x.leads(0, 0) + x.reduces(1) + x.frontier(0) + x.trees() + x.families(0, 0, 0);
    sum += x.accepted() || x.nullable(0) || x.stands(0, 1) || x.used(0, 0, 0) ? 1 : 0;
    int trees = x.trees();
    if (trees > 0) {
      int k = Math.min(trees, 1000000000) - 1;
      sum += x.length(0) + x.length(k) + x.made(0, 0) + x.made(k, x.length(k) - 1);
    }
    sum += x.rule(7, 0, 0, 0, 0) + x.rule(1, 6, 6, 0, 2) + (x.word(3) ? 1 : 0) + x.erase() + x.clear();
    sum += x.rule(0, 0, 0, -1, -1) + x.rule(0, 6, -1, -1, -1) + (x.word(6) ? 1 : 0) + x.trees();
    x.clear();
  }

  /** All that can be reached from an object, each once. */
  private static void count(Object start) throws IllegalAccessException {
    objects = 0;
    elements = 0;
    Set<Object> seen = Collections.newSetFromMap(new IdentityHashMap<>());
    Deque<Object> open = new ArrayDeque<>();
    open.add(start);
    while (!open.isEmpty()) {
      Object next = open.remove();
      if (seen.add(next)) {
        objects++;
        addParts(next, open);
      }
    }
  }

  private static void addParts(Object holder, Deque<Object> open) throws IllegalAccessException {
    if (holder.getClass().isArray()) {
      elements += Array.getLength(holder);
      return;
    }
    for (Field field : holder.getClass().getDeclaredFields()) {
      if (!Modifier.isStatic(field.getModifiers())) {
        elements++;
        field.setAccessible(true);
        Object value = field.get(holder);
        if (value != null && !field.getType().isPrimitive()) {
          open.add(value);
        }
      }
    }
  }
}
