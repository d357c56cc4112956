import java.lang.reflect.Method;
import java.util.ArrayList;
import java.util.Arrays;
import java.util.Comparator;
import java.util.List;
import java.util.Random;

/** Random runs of all calls, answered by the class and by the model alike. */
public final class ModelTest {
  private static final int[] EDGES = {-1, 0, 1, 2, 5, 6, 9, 10, 20, 21, 24, 25, 60, 61, 63, 64, 99, 100,
      255, 999, 1000, Integer.MAX_VALUE, Integer.MIN_VALUE, -1000000001};
  private static final String[] GRAMMAR = {"k", "l", "g", "m", "c", "s", "d", "1", "20", "305", "0",
      "+", "-", "*", "/", "%", "<", "=", ">", "&", "|", "!", "(", ")"};

  private final Random random;
  private final LeftLacks x = new LeftLacks();
  private final Model model = new Model();
  private final List<String> run = new ArrayList<>();

  private ModelTest(long seed) {
    random = new Random(seed);
  }

  public static void main(String[] args) throws ReflectiveOperationException {
    Method[] methods = LeftLacks.class.getDeclaredMethods();
    List<Method> faces = new ArrayList<>();
    for (Method method : methods) {
      if (java.lang.reflect.Modifier.isPublic(method.getModifiers())) {
        faces.add(method);
      }
    }
    faces.sort(Comparator.comparing(Method::getName));
    int runs = args.length > 0 ? Integer.parseInt(args[0]) : 400;
    long from = args.length > 1 ? Long.parseLong(args[1]) : 0;
    for (long seed = from; seed < from + runs; seed++) {
      new ModelTest(seed).oneRun(faces, seed);
    }
    Due.end("ModelTest");
  }

  private void oneRun(List<Method> faces, long seed) throws ReflectiveOperationException {
    int calls = 0;
    if (seed % 8 != 0) {
      calls = settle(faces);
    }
    for (; calls < 512; calls++) {
      Method method = faces.get(random.nextInt(faces.size()));
      if (!one(method, random.nextInt(12) == 0 ? wild(method) : tame(method.getName()))) {
        for (String line : run) {
          System.out.println("  " + line);
        }
        return;
      }
    }
  }

  /** Shops, goods and customers, that the rest has something to go by. */
  private int settle(List<Method> faces) throws ReflectiveOperationException {
    int calls = many(faces, "shop", random.nextInt(7));
    calls += many(faces, "set", random.nextInt(50));
    calls += many(faces, "customer", random.nextInt(11));
    calls += many(faces, "rule", random.nextInt(4));
    return calls + many(faces, "cost", random.nextInt(4));
  }

  private int many(List<Method> faces, String name, int times) throws ReflectiveOperationException {
    for (Method method : faces) {
      for (int i = 0; i < times && method.getName().equals(name); i++) {
        one(method, tame(name));
      }
    }
    return times;
  }

  private boolean one(Method method, long[] values) throws ReflectiveOperationException {
    Class<?>[] types = method.getParameterTypes();
    Object[] arguments = new Object[types.length];
    List<Integer> ints = new ArrayList<>();
    long word = 0;
    for (int i = 0; i < types.length; i++) {
      if (types[i] == long.class) {
        arguments[i] = values[i];
        word = values[i];
      } else {
        arguments[i] = (int) values[i];
        ints.add((int) values[i]);
      }
    }
    int got = (Integer) method.invoke(x, arguments);
    int want = model.call(method.getName(), word, ints.stream().mapToInt(i -> i).toArray());
    String line = method.getName() + Arrays.toString(arguments);
    run.add(line + " = " + got);
    Due.due(line, got, want);
    return got == want;
  }

  private long[] wild(Method method) {
    long[] values = new long[method.getParameterCount()];
    for (int i = 0; i < values.length; i++) {
      values[i] = random.nextInt(3) == 0 ? random.nextInt() : EDGES[random.nextInt(EDGES.length)];
    }
    return values;
  }

  private int below(int n) {
    return random.nextInt(n);
  }

  private int aShop() {
    int shops = x.count(0);
    model.call("count", 0, 0);
    return shops == 0 ? 0 : below(shops);
  }

  private int aCustomer() {
    int customers = x.count(1);
    model.call("count", 0, 1);
    return customers == 0 ? 0 : below(customers);
  }

  private long[] tame(String name) {
    switch (name) {
      case "cost": return new long[] {below(6), below(100)};
      case "rule": return new long[] {below(2), below(3)};
      case "shop": return new long[] {below(70)};
      case "shopIs": return new long[] {aShop(), below(16)};
      case "as": return new long[] {aShop(), below(7)};
      case "set": return someSet();
      case "price": case "fills": case "out": return new long[] {aShop(), below(6)};
      case "customer": return someCustomer();
      case "customerIs": return new long[] {aCustomer(), below(4)};
      case "feed": return someWord();
      case "text": return someText();
      case "untell": return new long[] {below(2)};
      case "visit": case "walk": return new long[] {aCustomer()};
      case "days": case "loose": return new long[] {1 + below(below(8) == 0 ? 60 : 4)};
      case "then": return new long[] {below(5), aShop(), below(16)};
      case "keep": return new long[] {aShop(), below(6), 1 + below(4)};
      case "range": return new long[] {aShop(), 1 + below(2)};
      case "turn": case "joined": return new long[] {aShop(), 1 + below(5)};
      case "voice": return new long[] {aShop(), below(4), below(2) == 0 ? below(50) - 25 : random.nextInt()};
      case "body": return new long[] {below(6)};
      case "sheet": return new long[] {below(4), below(9) == 0 ? 0 : 8 << below(3), below(26)};
      case "put": return somePut();
      case "move": return new long[] {below(4), below(12), below(4), below(12), below(12)};
      case "customers": case "judge": return new long[] {below(4)};
      case "came": return someCame();
      case "tell": return new long[] {below(2) == 0 ? x.count(3) + 0 * model.call("count", 0, 3) : below(4)};
      case "count": return new long[] {below(17)};
      case "told": return new long[] {1 + below(6)};
      case "seed": return new long[] {random.nextInt()};
      default: return new long[0];
    }
  }

  private long[] someSet() {
    int what = below(15);
    int most = what == 0 ? 7 : what < 9 ? 10 : below(3) == 0 ? 100 : 3;
    return new long[] {aShop(), what, below(most)};
  }

  private long[] someCustomer() {
    return new long[] {below(64), 10 * (1 + below(12)) + below(2), below(3) == 0 ? below(30) : below(1000)};
  }

  /** Numbers of a sheet as a customer, a sale, or a stock that is left. */
  private long[] somePut() {
    int sheet = below(4);
    int i = below(24);
    switch (below(3)) {
      case 0: return new long[] {sheet, i, someCustomer()[i % 3]};
      case 1: return new long[] {sheet, i, below(6)};
      default: return new long[] {sheet, i, random.nextInt()};
    }
  }

  /** First the sheet gets what the shop has, or a little less, so that some sets fit. */
  private long[] someCame() {
    int sheet = below(4);
    int shop = aShop();
    x.sheet(sheet, 8, 6);
    model.call("sheet", 0, sheet, 8, 6);
    for (int g = 0; g < 6; g++) {
      int stock = Math.max(0, x.shopIs(shop, 9 + g) - below(2));
      model.call("shopIs", 0, shop, 9 + g);
      x.put(sheet, g, stock);
      model.call("put", 0, sheet, g, stock);
    }
    run.add("sheet " + sheet + " gets STOCK of shop " + shop);
    return new long[] {sheet, shop, below(4)};
  }

  /** Mostly a TEXT by the grammar comes to an empty TAPE first; now and then one byte of it is spoilt. */
  private long[] someText() {
    int use = below(2);
    if (below(3) == 0) {
      return new long[] {use};
    }
    x.text(use);
    model.call("text", 0, use);
    StringBuilder text = new StringBuilder(expression(use == 0 ? "klgm" : "csdm", 3));
    text.setLength(Math.min(60, text.length()));
    if (below(4) == 0) {
      text.setCharAt(below(text.length()), GRAMMAR[below(GRAMMAR.length)].charAt(0));
    }
    for (int i = 0; i < text.length(); i++) {
      x.feed(text.charAt(i), 1);
      model.call("feed", text.charAt(i), 1);
    }
    run.add("tape gets " + text);
    return new long[] {use};
  }

  private String expression(String names, int depth) {
    int form = depth == 0 ? below(2) : below(8);
    switch (form) {
      case 0: return String.valueOf(names.charAt(below(4)));
      case 1: return String.valueOf(below(below(2) == 0 ? 10 : 10000));
      case 2: return "!" + expression(names, 0);
      case 3: return "(" + expression(names, depth - 1) + ")";
      default:
        return expression(names, depth - 1) + "+-*/%<=>&|".charAt(below(10)) + expression(names, depth - 1);
    }
  }

  private long[] someWord() {
    StringBuilder text = new StringBuilder();
    boolean part = random.nextBoolean();
    while (text.length() < 8) {
      text.append(below(6) == 0 ? GRAMMAR[below(GRAMMAR.length)]
          : part ? GRAMMAR[below(11)] : GRAMMAR[11 + below(10)]);
      part = !part;
    }
    long word = 0;
    for (int i = 7; i >= 0; i--) {
      word = word << 8 | text.charAt(i);
    }
    return new long[] {word, 1 + below(8)};
  }
}
