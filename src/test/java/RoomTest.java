import java.lang.management.ManagementFactory;
import java.lang.reflect.Array;
import java.lang.reflect.Field;
import java.lang.reflect.Modifier;
import java.util.ArrayDeque;
import java.util.Collections;
import java.util.Deque;
import java.util.IdentityHashMap;
import java.util.Set;

/** All calls of a run live in one room: what an object is made of, and that no call makes more. */
public final class RoomTest {
  private static final int MOST_OBJECTS = 200;
  private static final int MOST_PLACES = 3000;

  private int objects;
  private int places;

  public static void main(String[] args) throws IllegalAccessException {
    made("a new one", new LeftLacks());
    LeftLacks used = full();
    everyCall(used);
    made("one that was used", used);
    callsMakeNothing();
    Due.end("RoomTest");
  }

  private static void made(String what, LeftLacks x) throws IllegalAccessException {
    RoomTest room = new RoomTest();
    room.walk(x);
    Due.due(what + " is of " + room.objects + " objects: few enough", room.objects <= MOST_OBJECTS ? 1 : 0, 1);
    Due.due(what + " has " + room.places + " places: few enough", room.places <= MOST_PLACES ? 1 : 0, 1);
  }

  private void walk(LeftLacks start) throws IllegalAccessException {
    Set<Object> seen = Collections.newSetFromMap(new IdentityHashMap<>());
    Deque<Object> open = new ArrayDeque<>();
    open.add(start);
    while (!open.isEmpty()) {
      Object one = open.remove();
      if (one instanceof String || !seen.add(one)) {
        continue;
      }
      objects++;
      if (one.getClass().isArray()) {
        places += Array.getLength(one);
        for (int i = 0; one instanceof Object[] && i < Array.getLength(one); i++) {
          reach(open, Array.get(one, i));
        }
        continue;
      }
      for (Field field : one.getClass().getDeclaredFields()) {
        if (!Modifier.isStatic(field.getModifiers())) {
          places++;
          field.setAccessible(true);
          reach(open, field.getType().isPrimitive() ? null : field.get(one));
        }
      }
    }
  }

  private static void reach(Deque<Object> open, Object part) {
    if (part != null) {
      open.add(part);
    }
  }

  /** A RING of six that sell, ten CUSTOMERS, both TEXTS, and SHEETS for all calls that read one. */
  private static LeftLacks full() {
    LeftLacks x = Rows.ring(61, 12, 23, 34, 45, 56);
    for (int i = 0; i < 6; i++) {
      for (int good = 0; good < 6; good++) {
        x.set(i, 3 + good, (i + good) % 4);
      }
    }
    Rows.come(x, 9, 63, 120, 200);
    Due.tellText(x, 0, "k+(l=0)*m");
    Due.tellText(x, 1, "2*c+s%3+d/10");
    Due.write(x, 0, 16, 63, 61, 500);
    Due.write(x, 1, 8, 0, 1, 2, 3, 4, 5);
    return x;
  }

  /** Answers too: a call whose answer nobody wants might be left out by the machine. */
  private static int everyCall(LeftLacks x) {
    int sum = x.cost(0, 5) + x.rule(1, 2) + x.shop(0) + x.shopIs(1, 15) + x.as(4, 1) + x.set(0, 3, 4);
    sum += x.price(0, 0) + x.fills(0, 0) + x.customers(0) + x.customer(1, 20, 9) + x.customerIs(0, 3) + x.leave();
    sum += x.feed(0x6b2a32L, 3) + x.text(0) + x.feed(0x2a32L, 2) + x.text(0) + x.untell(0);
    sum += x.image() + x.morning() + x.visit(0) + x.days(3) + x.loose(3) + x.seed(7) + x.restore();
    sum += x.then(9, 0, 15) + x.keep(0, 0, 5) + x.range(0, 2) + x.turn(0, 5) + x.out(1, 0) + x.joined(0, 5);
    sum += x.walk(0) + x.voice(4, 3, 9) + x.voice(0, 3, 9) + x.body(0) + x.sheet(2, 8, 6) + x.put(2, 0, 300);
    sum += x.move(1, 0, 2, 1, 5) + x.judge(1) + x.came(1, 0, 0) + x.tell(1) + x.tell(2) + x.check();
    return sum + x.count(6) + x.told(1) + x.told(9);
  }

  private static void callsMakeNothing() {
    if (!(ManagementFactory.getThreadMXBean() instanceof com.sun.management.ThreadMXBean counter)
        || !counter.isThreadAllocatedMemorySupported()) {
      System.out.println("RoomTest: this machine does not tell what a thread makes; not asked");
      return;
    }
    LeftLacks x = full();
    int sum = 0;
    long least = Long.MAX_VALUE;
    // the machine makes something of its own now and then, so that the least of several rounds is due
    for (int i = 0; i < 5; i++) {
      long before = counter.getCurrentThreadAllocatedBytes();
      sum += everyCall(x);
      least = Math.min(least, counter.getCurrentThreadAllocatedBytes() - before);
    }
    Due.due("bytes that all calls make (" + sum + ")", least, 0);
  }
}
