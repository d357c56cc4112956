import java.lang.reflect.Method;

/**
 * Promises 2 to 41: each argument at its least and its most, one below and one above, and at the ends of
 * all ints; what isn't taken is BEYOND, told once, and only once.
 */
public final class LimitsTest {
  private static final int MOST = Integer.MAX_VALUE;
  private static final int LEAST = Integer.MIN_VALUE;

  public static void main(String[] args) throws ReflectiveOperationException {
    goodsAndShops();
    setting();
    customers();
    textsAndDays();
    ahead();
    voicesAndSheets();
    whatIsTold();
    nobodyAtAll();
    Due.end("LimitsTest");
  }

  /** Three SHOPS, two CUSTOMERS, SHEETS 0 and 1 of seven numbers. */
  private static LeftLacks furnished() {
    LeftLacks x = new LeftLacks();
    x.shop(9);
    x.shop(19);
    x.shop(49);
    x.set(0, 9, 1);
    x.set(1, 9, 1);
    x.customer(1, 30, 99);
    x.customer(3, 31, 99);
    x.sheet(0, 8, 7);
    x.sheet(1, 8, 7);
    return x;
  }

  private static int call(LeftLacks x, String name, int[] values) throws ReflectiveOperationException {
    for (Method method : LeftLacks.class.getMethods()) {
      if (method.getName().equals(name) && method.getParameterCount() == values.length) {
        Object[] arguments = new Object[values.length];
        for (int i = 0; i < values.length; i++) {
          arguments[i] = values[i];
          if (method.getParameterTypes()[i] == long.class) {
            arguments[i] = (long) values[i];
          }
        }
        return (Integer) method.invoke(x, arguments);
      }
    }
    throw new NoSuchMethodException(name);
  }

  private static void one(String name, int[] values, boolean taken) throws ReflectiveOperationException {
    LeftLacks x = furnished();
    int got = call(x, name, values);
    String line = name + java.util.Arrays.toString(values);
    Due.due(line + (taken ? " is taken" : " is BEYOND"), got == Due.BEYOND ? 0 : 1, taken ? 1 : 0);
    Due.due("told(1) behind " + line, x.told(1), taken ? 0 : 1);
    int others = 0;
    for (int k = 2; k <= 6; k++) {
      others += x.told(k);
    }
    Due.due("told() of others behind " + line, others, got < Due.BEYOND && got >= Due.PARTED ? 1 : 0);
  }

  /** Argument i is taken from least to most, the others being as they are. */
  private static void takes(String name, int i, int least, int most, int... values)
      throws ReflectiveOperationException {
    int[] tried = {least, most, least - 1, most + 1, LEAST, MOST};
    for (int v : tried) {
      int[] with = values.clone();
      with[i] = v;
      one(name, with, v >= least && v <= most);
    }
  }

  private static void goodsAndShops() throws ReflectiveOperationException {
    Due.by("2 cost: BEYOND");
    takes("cost", 0, 0, 5, 0, 7);
    takes("cost", 1, 0, 99, 5, 7);
    Due.by("3 rule: BEYOND");
    takes("rule", 0, 0, 1, 0, 1);
    takes("rule", 1, 0, 1, 0, 0);
    takes("rule", 1, 0, 2, 1, 0);
    one("rule", new int[] {0, 2}, false);
    one("rule", new int[] {2, 2}, false);
    Due.by("4 shop: BEYOND");
    takes("shop", 0, 0, 69, 0);
    Due.by("5 shopIs: BEYOND");
    takes("shopIs", 0, 0, 2, 0, 15);
    takes("shopIs", 1, 0, 15, 2, 0);
    Due.by("6 as: BEYOND");
    takes("as", 0, 0, 2, 0, 0);
    takes("as", 1, 0, 6, 0, 0);
    Due.by("8 price: BEYOND");
    takes("price", 0, 0, 2, 0, 0);
    takes("price", 1, 0, 5, 0, 0);
    Due.by("9 fills: BEYOND");
    takes("fills", 0, 0, 2, 0, 0);
    takes("fills", 1, 0, 5, 0, 0);
  }

  private static void setting() throws ReflectiveOperationException {
    Due.by("7 set: BEYOND");
    takes("set", 0, 0, 2, 0, 0, 0);
    takes("set", 2, 0, 6, 0, 0, 0);
    takes("set", 2, 0, 9, 0, 1, 0);
    for (int good = 0; good < 6; good++) {
      takes("set", 2, 0, 9, 0, 3 + good, 0);
      takes("set", 2, 0, 99, 0, 9 + good, 0);
    }
    for (int what = -3; what <= 20; what++) {
      one("set", new int[] {0, what, 0}, what >= 0 && what <= 14 && what != 2);
    }
    one("set", new int[] {0, LEAST, 0}, false);
    one("set", new int[] {0, MOST, 0}, false);
    Due.by("7 set: what it was");
    LeftLacks x = furnished();
    Due.due("KIND", x.set(1, 0, 6), 1);
    Due.due("KIND", x.set(1, 0, 0), 6);
    Due.due("m", x.set(1, 1, 0), 9);
    Due.due("m", x.set(1, 1, 9), 0);
    for (int what = 3; what <= 14; what++) {
      int most = what < 9 ? 9 : 99;
      Due.due("at first", x.set(2, what, most), 0);
      Due.due("then", x.set(2, what, 0), most);
    }
  }

  private static void customers() throws ReflectiveOperationException {
    Due.by("10 customer: BEYOND: wants 0 .. 63");
    takes("customer", 0, 0, 63, 0, 10, 0);
    takes("customer", 2, 0, 999, 0, 10, 0);
    Due.by("10 customer: sf: 10 times STEPS (1 .. 12), and FROM (0, 1)");
    for (int sf = -30; sf <= 160; sf++) {
      boolean fits = sf >= 10 && sf <= 121 && (sf % 10 == 0 || sf % 10 == 1);
      one("customer", new int[] {1, sf, 1}, fits);
    }
    one("customer", new int[] {1, LEAST, 1}, false);
    one("customer", new int[] {1, MOST, 1}, false);
    Due.by("11 customerIs: BEYOND");
    takes("customerIs", 0, 0, 1, 0, 0);
    takes("customerIs", 1, 0, 3, 0, 0);
    Due.by("4, 10: FULL, behind BEYOND");
    LeftLacks x = new LeftLacks();
    for (int i = 0; i < 6; i++) {
      Due.due("shop()", x.shop(i), i);
    }
    for (int i = 0; i < 10; i++) {
      Due.due("customer()", x.customer(i, 10, i), i);
    }
    Due.due("shop()", x.shop(0), Due.FULL);
    Due.due("shop() of no KIND", x.shop(70), Due.BEYOND);
    Due.due("customer()", x.customer(0, 10, 0), Due.FULL);
    Due.due("customer() who wants too much", x.customer(64, 10, 0), Due.BEYOND);
    Due.due("SHOPS", x.count(0), 6);
    Due.due("CUSTOMERS", x.count(1), 10);
    Due.by("12 leave: how many are left. STATE: there is none");
    for (int i = 9; i >= 0; i--) {
      Due.due("leave()", x.leave(), i);
      Due.due("gone", x.customerIs(i, 0), Due.BEYOND);
      Due.due("the one ahead", x.customerIs(i - 1, 0), i == 0 ? Due.BEYOND : i - 1);
    }
    Due.due("leave() of none", x.leave(), Due.STATE);
    Due.due("CUSTOMERS", x.count(1), 0);
    Due.due("one comes again", x.customer(5, 10, 0), 0);
  }

  private static void textsAndDays() throws ReflectiveOperationException {
    Due.by("13 feed: n lowest bytes (1 .. 8)");
    takes("feed", 1, 1, 8, 0, 1);
    Due.by("14 text, 15 untell: a USE (0, 1)");
    takes("text", 0, 0, 1, 0);
    takes("untell", 0, 0, 1, 0);
    Due.by("17 visit: BEYOND");
    takes("visit", 0, 0, 1, 0);
    Due.by("18 days, 19 loose: n (1 .. 60)");
    takes("days", 0, 1, 60, 1);
    takes("loose", 0, 1, 60, 1);
    Due.by("18, 19: STATE: DAYS would be above 9999");
    for (int rest = 0; rest <= 2; rest++) {
      LeftLacks x = new LeftLacks();
      for (int i = 0; i < 166; i++) {
        x.days(60);
      }
      x.days(39 - rest);
      Due.due("just beyond", x.days(rest + 1), Due.STATE);
      Due.due("just beyond", x.loose(rest + 1), Due.STATE);
      Due.due("60", x.days(60), Due.STATE);
      Due.due("BEYOND ahead of STATE", x.days(61), Due.BEYOND);
      Due.due("BEYOND ahead of STATE", x.loose(61), Due.BEYOND);
      Due.due("BEYOND ahead of STATE", x.days(0), Due.BEYOND);
      Due.due("BEYOND ahead of STATE", x.loose(-1), Due.BEYOND);
      Due.due("DAYS", x.count(2), 9999 - rest);
      Due.due("told(3)", x.told(3), 3);
      if (rest > 0) {
        Due.due("just so many", x.loose(rest), 0);
        Due.due("DAYS", x.count(2), 9999);
      }
    }
  }

  private static void ahead() throws ReflectiveOperationException {
    Due.by("21 then: n (0 .. 60)");
    takes("then", 0, 0, 60, 0, 0, 2);
    takes("then", 1, 0, 2, 1, 0, 2);
    takes("then", 2, 0, 15, 1, 0, 2);
    Due.by("22 keep: n (1 .. 20)");
    takes("keep", 0, 0, 2, 0, 0, 1);
    takes("keep", 1, 0, 5, 0, 0, 1);
    takes("keep", 2, 1, 20, 0, 0, 1);
    Due.by("23 range: n (1 .. 5)");
    takes("range", 0, 0, 2, 0, 1);
    takes("range", 1, 1, 5, 0, 1);
    Due.by("24 turn: n (1 .. 20)");
    takes("turn", 0, 0, 2, 0, 1);
    takes("turn", 1, 1, 20, 0, 1);
    Due.by("25 out: BEYOND");
    takes("out", 0, 0, 2, 1, 0);
    takes("out", 1, 0, 5, 1, 0);
    Due.by("26 joined: n (1 .. 20); BEYOND: also the last SHOP");
    takes("joined", 0, 0, 1, 0, 1);
    takes("joined", 1, 1, 20, 0, 1);
    Due.by("27 walk: BEYOND");
    takes("walk", 0, 0, 1, 0);
  }

  private static void voicesAndSheets() throws ReflectiveOperationException {
    Due.by("28 voice: BEYOND");
    takes("voice", 0, 0, 2, 0, 0, 0);
    takes("voice", 1, 0, 3, 0, 0, 0);
    takes("voice", 2, LEAST, MOST, 0, 0, 0);
    Due.by("30 sheet: BEYOND");
    takes("sheet", 0, 0, 3, 0, 8, 1);
    Due.by("31 put: BEYOND");
    takes("put", 0, 0, 3, 0, 0, 0);
    takes("put", 1, 0, 6, 0, 0, 0);
    takes("put", 2, LEAST, MOST, 0, 0, 0);
    Due.by("32 move: BEYOND");
    takes("move", 0, 0, 3, 0, 0, 0, 0, 1);
    takes("move", 2, 0, 3, 0, 0, 0, 0, 1);
    takes("move", 1, 0, 4, 0, 0, 1, 0, 3);
    takes("move", 3, 0, 4, 0, 0, 1, 0, 3);
    takes("move", 4, 0, 5, 0, 2, 1, 1, 0);
    takes("move", 4, 0, 5, 0, 1, 1, 2, 0);
    Due.by("33 customers, 34 judge: BEYOND");
    takes("customers", 0, 0, 3, 0);
    takes("judge", 0, 0, 3, 0);
    Due.by("35 came: BEYOND: SHEET, SHOP, what");
    takes("came", 0, 0, 3, 0, 0, 0);
    takes("came", 1, 0, 2, 0, 0, 0);
    takes("came", 2, 0, 3, 0, 0, 0);
    LeftLacks x = furnished();
    Due.due("BEYOND ahead of NONE: SHOP", x.came(2, 3, 0), Due.BEYOND);
    Due.due("BEYOND ahead of NONE: what", x.came(2, 0, 4), Due.BEYOND);
    Due.due("NONE", x.came(2, 0, 0), Due.NONE);
  }

  private static void whatIsTold() throws ReflectiveOperationException {
    Due.by("38 tell: any number");
    takes("tell", 0, LEAST, MOST, 0);
    Due.by("40 count: BEYOND");
    takes("count", 0, 0, 16, 0);
    Due.by("20 seed: any number");
    takes("seed", 0, LEAST, MOST, 0);
    LeftLacks x = furnished();
    for (int k = -2; k <= 9; k++) {
      Due.by("41 told: BEYOND: another k");
      int before = x.told(1);
      Due.due("told(" + k + ")", x.told(k), k < 1 || k > 6 ? Due.BEYOND : k == 1 ? before : 0);
    }
  }

  /** With no SHOPS and no CUSTOMERS every number of one is BEYOND. */
  private static void nobodyAtAll() throws ReflectiveOperationException {
    Due.by("no SHOPS, no CUSTOMERS: BEYOND");
    int[][] ofShop = {{0, 0}, {-1, 0}, {LEAST, 0}, {MOST, 0}};
    String[] two = {"shopIs", "as", "price", "fills", "out"};
    for (String name : two) {
      for (int[] one : ofShop) {
        Due.due(name, call(new LeftLacks(), name, one), Due.BEYOND);
      }
    }
    for (int shop = -1; shop <= 1; shop++) {
      LeftLacks x = new LeftLacks();
      x.sheet(0, 8, 6);
      Due.due("set", x.set(shop, 0, 0), Due.BEYOND);
      Due.due("then", x.then(0, shop, 0), Due.BEYOND);
      Due.due("keep", x.keep(shop, 0, 1), Due.BEYOND);
      Due.due("range", x.range(shop, 1), Due.BEYOND);
      Due.due("turn", x.turn(shop, 1), Due.BEYOND);
      Due.due("joined", x.joined(shop, 1), Due.BEYOND);
      Due.due("voice", x.voice(shop, 0, 0), Due.BEYOND);
      Due.due("came", x.came(0, shop, 0), Due.BEYOND);
      Due.due("visit", x.visit(shop), Due.BEYOND);
      Due.due("walk", x.walk(shop), Due.BEYOND);
      Due.due("customerIs", x.customerIs(shop, 0), Due.BEYOND);
      Due.due("told(1)", x.told(1), 11);
      x.rule(0, 1);
      Due.due("turn in a RING", x.turn(shop, 1), Due.BEYOND);
      Due.due("joined in a RING", x.joined(shop, 1), Due.BEYOND);
      Due.due("out in a RING", x.out(shop, 0), Due.BEYOND);
    }
  }
}
