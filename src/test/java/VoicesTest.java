/** Promises 28 and 29. */
public final class VoicesTest {
  public static void main(String[] args) {
    kinds();
    parted();
    edges();
    Due.end("VoicesTest");
  }

  /** SHOP 2 of a KIND with m 5 is asked for a VOICE with 9. */
  private static void voice(int kind, int voice, int due, int... bodies) {
    LeftLacks x = new LeftLacks();
    x.shop(0);
    x.shop(0);
    x.shop(10 * kind + 5);
    String call = "28 voice " + voice + " of kind " + kind;
    Due.due(call, x.voice(2, voice, 9), due);
    Due.due(call + " bodies", x.count(9), bodies.length);
    for (int i = 0; i < bodies.length; i++) {
      Due.due("29 body " + i + " behind " + call, x.body(i), bodies[i]);
    }
    Due.due("29 none behind " + call, x.body(bodies.length), Due.NONE);
    Due.due("29 none ahead of " + call, x.body(-1), Due.NONE);
    Due.due("29 told(2)", x.told(2), 2);
  }

  private static void kinds() {
    voice(0, 0, 11, 10);
    voice(0, 1, 22, 11, 10);
    voice(0, 2, 17, 12, 11, 10);
    voice(0, 3, 3, 13);
    voice(1, 0, 7, 20, 10);
    voice(1, 1, 14, 11, 20, 10);
    voice(1, 2, 9, 12, 11, 20, 10);
    voice(1, 3, 3 - 2, 21, 13, 11, 20, 10);
    voice(2, 0, 11, 10);
    voice(2, 1, -22, 30, 11, 10);
    voice(2, 2, -27, 12, 30, 11, 10);
    voice(2, 3, 3, 13);
    voice(3, 0, 11, 10);
    voice(3, 1, 22, 11, 10);
    voice(3, 2, 12 - 5, 40, 12, 11, 10);
    voice(3, 3, 3, 13);
    voice(4, 0, 21, 50, 20, 10);
    voice(4, 1, 42, 11, 50, 20, 10);
    voice(4, 2, 37 ^ 2, 51, 12, 11, 50, 20, 10);
    voice(4, 3, 3 - 6, 21, 13, 11, 50, 20, 10);
    voice(5, 0, 11, 10);
    voice(5, 1, -24, 60, 30, 11, 10);
    voice(5, 2, -29, 12, 60, 30, 11, 10);
    voice(5, 3, 3, 13);
    voice(6, 0, 2, 70);
    voice(6, 1, 9, 71, 11, 70);
    voice(6, 2, 4, 12, 71, 11, 70);
    voice(6, 3, 3, 13);
  }

  private static void parted() {
    LeftLacks x = new LeftLacks();
    x.shop(0);
    x.shop(41);
    Due.due("28 parted", x.voice(0, 3, 9), Due.PARTED);
    Due.due("29 parted, too", x.count(9), 1);
    Due.due("29 parted, too", x.body(0), 13);
    Due.due("28 parted", x.voice(1, 3, 9), Due.PARTED);
    Due.due("29 ends there", x.count(9), 2);
    Due.due("29 began", x.body(0), 21);
    Due.due("29 began", x.body(1), 13);
    Due.due("28 told(6)", x.told(6), 2);
    Due.due("28 behind it", x.voice(1, 0, 9), 18);
    x.set(1, 1, 0);
    Due.due("28 by -1", x.voice(1, 3, Integer.MIN_VALUE), Integer.MIN_VALUE - 12);
    x.set(0, 1, 4);
    Due.due("28 cut", x.voice(0, 3, -7), -1);
  }

  private static void edges() {
    LeftLacks x = new LeftLacks();
    x.shop(3);
    x.shop(30);
    Due.due("28 no such shop", x.voice(2, 0, 0), Due.BEYOND);
    Due.due("28 no such shop", x.voice(-1, 0, 0), Due.BEYOND);
    x.voice(0, 1, 4);
    Due.due("28 no such voice", x.voice(0, 4, 0), Due.BEYOND);
    Due.due("28 no such voice", x.voice(0, -1, 0), Due.BEYOND);
    Due.due("29 the trace stays behind BEYOND", x.count(9), 2);
    Due.due("28 wraps", x.voice(1, 0, Integer.MAX_VALUE), Integer.MIN_VALUE);
    Due.due("28 wraps", x.voice(0, 1, Integer.MAX_VALUE), -2);
    Due.due("28 half is cut", x.voice(1, 2, -7), (-3 + 1) * 2);
    Due.due("28 told(1)", x.told(1), 4);
  }
}
