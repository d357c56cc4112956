import java.util.ArrayList;
import java.util.List;
import java.util.function.ToIntFunction;

/**
 * Terms: one that answers an ERROR changes nothing but what told() tells, or where told. Two objects are
 * made alike; one of them is asked for what is refused; then both must answer alike to all that follows.
 */
public final class RefusedTest {
  private static final int SETTINGS = 4;

  public static void main(String[] args) {
    goodsShopsCustomers();
    textsAndDays();
    ahead();
    voicesAndSheets();
    fullOfAll();
    atTheLastDay();
    withNothing();
    asks();
    Due.end("RefusedTest");
  }

  /** Objects with something of all, and unlike one another. */
  private static LeftLacks made(int setting) {
    LeftLacks x = new LeftLacks();
    if (setting == 1) {
      x.image();
    }
    for (int i = 0; i < 4; i++) {
      x.shop(10 * ((i + 5 * setting) % 7) + i);
      for (int good = 0; good < 6; good++) {
        x.set(i, 3 + good, (i + good + setting) % 5 * 2);
        x.set(i, 9 + good, (i * good + setting) % 4);
      }
    }
    for (int i = 0; i < 5; i++) {
      x.customer(7 * i + setting, 20 + 10 * i + i % 2, 40 * i);
    }
    x.cost(2, 9);
    x.rule(0, setting % 2);
    x.rule(1, setting % 3);
    Due.tellText(x, 0, "k+l%3");
    Due.tellText(x, 1, "c*2+s+d");
    x.loose(3);
    if (setting == 2) {
      x.image();
      x.days(2);
    }
    Due.feedAll(x, "k+1");
    x.tell(3);
    x.tell(4);
    Due.write(x, 0, 8, 1, 20, 30, 2, 31, 40);
    Due.write(x, 1, 32, 0, 0, 1, 1, 2, 2, 3);
    x.sheet(2, 8, 0);
    x.voice(3, 2, 7);
    return x;
  }

  /** All that can be asked, and then how all goes on. */
  private static List<Integer> report(LeftLacks x) {
    List<Integer> all = new ArrayList<>();
    state(x, all);
    for (int i = 0; i < 8; i++) {
      all.add(x.body(i));
    }
    all.add(x.judge(1));
    all.add(x.move(0, 0, 1, 0, 1));
    all.add(x.put(2, 0, 1));
    all.add(x.put(3, 0, 1));
    all.add(x.put(1, 7, 1));
    for (int what = 0; what < 4; what++) {
      all.add(x.came(0, 1, what));
      all.add(x.came(1, 0, what));
    }
    all.add(x.customers(0));
    all.add(x.check());
    all.add(x.text(0));
    all.add(x.loose(3));
    state(x, all);
    all.add(x.image());
    all.add(x.restore());
    return all;
  }

  private static void state(LeftLacks x, List<Integer> all) {
    for (int what = 0; what <= 16; what++) {
      all.add(x.count(what));
    }
    for (int i = 0; i < 6; i++) {
      for (int what = 0; what <= 15; what++) {
        all.add(x.shopIs(i, what));
      }
      for (int good = 0; good < 6; good++) {
        all.add(x.price(i, good));
        all.add(x.fills(i, good));
      }
    }
    for (int i = 0; i < 10; i++) {
      for (int what = 0; what < 4; what++) {
        all.add(x.customerIs(i, what));
      }
    }
  }

  private static int[] told(LeftLacks x) {
    int[] told = new int[7];
    for (int k = 1; k <= 6; k++) {
      told[k] = x.told(k);
    }
    return told;
  }

  private static void alike(String call, LeftLacks x, LeftLacks twin, int error, ToIntFunction<LeftLacks> act) {
    int[] before = told(x);
    Due.due(call, act.applyAsInt(x), error);
    int[] behind = told(x);
    for (int k = 1; k <= 6; k++) {
      Due.due("told(" + k + ") behind " + call, behind[k] - before[k], k == Due.LOW - error ? 1 : 0);
    }
    List<Integer> got = report(x);
    List<Integer> want = report(twin);
    for (int i = 0; i < want.size(); i++) {
      if (!got.get(i).equals(want.get(i))) {
        Due.due("answer " + i + " behind " + call, got.get(i), want.get(i));
      }
    }
    restored(call, x, twin);
  }

  /** The IMAGE, too, is as it was. */
  private static void restored(String call, LeftLacks x, LeftLacks twin) {
    Due.due("restore() behind " + call, x.restore(), twin.restore());
    for (int what = 0; what <= 16; what++) {
      Due.due("count(" + what + ") of the IMAGE behind " + call, x.count(what), twin.count(what));
    }
  }

  private static void refused(String call, int error, ToIntFunction<LeftLacks> act) {
    for (int setting = 0; setting < SETTINGS; setting++) {
      alike(call, made(setting), made(setting), error, act);
    }
  }

  private static void goodsShopsCustomers() {
    Due.by("one that answers an ERROR changes nothing but what told() tells");
    refused("cost(6, 1)", Due.BEYOND, x -> x.cost(6, 1));
    refused("cost(0, 100)", Due.BEYOND, x -> x.cost(0, 100));
    refused("rule(0, 2)", Due.BEYOND, x -> x.rule(0, 2));
    refused("rule(1, 3)", Due.BEYOND, x -> x.rule(1, 3));
    refused("rule(2, 1)", Due.BEYOND, x -> x.rule(2, 1));
    refused("shop(70)", Due.BEYOND, x -> x.shop(70));
    refused("shopIs(4, 0)", Due.BEYOND, x -> x.shopIs(4, 0));
    refused("shopIs(0, 16)", Due.BEYOND, x -> x.shopIs(0, 16));
    refused("as(4, 0)", Due.BEYOND, x -> x.as(4, 0));
    refused("as(0, 7)", Due.BEYOND, x -> x.as(0, 7));
    refused("set(4, 3, 1)", Due.BEYOND, x -> x.set(4, 3, 1));
    refused("set(0, 2, 1)", Due.BEYOND, x -> x.set(0, 2, 1));
    refused("set(0, 15, 1)", Due.BEYOND, x -> x.set(0, 15, 1));
    refused("set(0, 0, 7)", Due.BEYOND, x -> x.set(0, 0, 7));
    refused("set(0, 1, 10)", Due.BEYOND, x -> x.set(0, 1, 10));
    refused("set(0, 3, 10)", Due.BEYOND, x -> x.set(0, 3, 10));
    refused("set(0, 9, 100)", Due.BEYOND, x -> x.set(0, 9, 100));
    refused("price(4, 0)", Due.BEYOND, x -> x.price(4, 0));
    refused("fills(0, 6)", Due.BEYOND, x -> x.fills(0, 6));
    refused("customer(64, 10, 0)", Due.BEYOND, x -> x.customer(64, 10, 0));
    refused("customer(1, 12, 0)", Due.BEYOND, x -> x.customer(1, 12, 0));
    refused("customer(1, 10, 1000)", Due.BEYOND, x -> x.customer(1, 10, 1000));
    refused("customerIs(5, 0)", Due.BEYOND, x -> x.customerIs(5, 0));
    refused("customerIs(0, 4)", Due.BEYOND, x -> x.customerIs(0, 4));
  }

  private static void textsAndDays() {
    Due.by("one that answers an ERROR changes nothing but what told() tells");
    refused("feed(0, 0)", Due.BEYOND, x -> x.feed(0, 0));
    refused("feed(0, 9)", Due.BEYOND, x -> x.feed(0, 9));
    refused("text(2)", Due.BEYOND, x -> x.text(2));
    refused("text(-1)", Due.BEYOND, x -> x.text(-1));
    refused("untell(2)", Due.BEYOND, x -> x.untell(2));
    refused("visit(5)", Due.BEYOND, x -> x.visit(5));
    refused("visit(-1)", Due.BEYOND, x -> x.visit(-1));
    refused("days(0)", Due.BEYOND, x -> x.days(0));
    refused("days(61)", Due.BEYOND, x -> x.days(61));
    refused("loose(0)", Due.BEYOND, x -> x.loose(0));
    refused("loose(61)", Due.BEYOND, x -> x.loose(61));
  }

  private static void ahead() {
    Due.by("one that answers an ERROR changes nothing but what told() tells");
    refused("then(61, 0, 0)", Due.BEYOND, x -> x.then(61, 0, 0));
    refused("then(1, 4, 0)", Due.BEYOND, x -> x.then(1, 4, 0));
    refused("then(1, 0, 16)", Due.BEYOND, x -> x.then(1, 0, 16));
    refused("keep(4, 0, 1)", Due.BEYOND, x -> x.keep(4, 0, 1));
    refused("keep(0, 6, 1)", Due.BEYOND, x -> x.keep(0, 6, 1));
    refused("keep(0, 0, 21)", Due.BEYOND, x -> x.keep(0, 0, 21));
    refused("range(4, 1)", Due.BEYOND, x -> x.range(4, 1));
    refused("range(0, 6)", Due.BEYOND, x -> x.range(0, 6));
    refused("turn(4, 1)", Due.BEYOND, x -> x.turn(4, 1));
    refused("turn(0, 21)", Due.BEYOND, x -> x.turn(0, 21));
    refused("out(4, 0)", Due.BEYOND, x -> x.out(4, 0));
    refused("out(1, 6)", Due.BEYOND, x -> x.out(1, 6));
    refused("joined(3, 1)", Due.BEYOND, x -> x.joined(3, 1));
    refused("joined(0, 21)", Due.BEYOND, x -> x.joined(0, 21));
    refused("walk(5)", Due.BEYOND, x -> x.walk(5));
  }

  private static void voicesAndSheets() {
    Due.by("one that answers an ERROR changes nothing but what told() tells");
    refused("voice(4, 0, 0)", Due.BEYOND, x -> x.voice(4, 0, 0));
    refused("voice(0, 4, 0)", Due.BEYOND, x -> x.voice(0, 4, 0));
    refused("body(-1)", Due.NONE, x -> x.body(-1));
    refused("body(30)", Due.NONE, x -> x.body(30));
    refused("sheet(4, 8, 1)", Due.BEYOND, x -> x.sheet(4, 8, 1));
    refused("sheet(0, 9, 1)", Due.BEYOND, x -> x.sheet(0, 9, 1));
    refused("sheet(0, 8, 25)", Due.BEYOND, x -> x.sheet(0, 8, 25));
    refused("sheet(0, 8, -1)", Due.STATE, x -> x.sheet(0, 8, -1));
    refused("sheet(3, 16, -1)", Due.STATE, x -> x.sheet(3, 16, -1));
    refused("put(4, 0, 1)", Due.BEYOND, x -> x.put(4, 0, 1));
    refused("put(3, 0, 1)", Due.NONE, x -> x.put(3, 0, 1));
    refused("put(0, 6, 1)", Due.BEYOND, x -> x.put(0, 6, 1));
    refused("move(4, 0, 0, 0, 1)", Due.BEYOND, x -> x.move(4, 0, 0, 0, 1));
    refused("move(0, 0, 3, 0, 1)", Due.NONE, x -> x.move(0, 0, 3, 0, 1));
    refused("move(0, 0, 1, 0, 1)", Due.KIND, x -> x.move(0, 0, 1, 0, 1));
    refused("move(0, 0, 0, 1, 6)", Due.BEYOND, x -> x.move(0, 0, 0, 1, 6));
    refused("move(0, 0, 2, 0, 1)", Due.BEYOND, x -> x.move(0, 0, 2, 0, 1));
    refused("customers(4)", Due.BEYOND, x -> x.customers(4));
    refused("customers(3)", Due.NONE, x -> x.customers(3));
    refused("judge(4)", Due.BEYOND, x -> x.judge(4));
    refused("judge(3)", Due.NONE, x -> x.judge(3));
    refused("came(4, 0, 0)", Due.BEYOND, x -> x.came(4, 0, 0));
    refused("came(0, 4, 0)", Due.BEYOND, x -> x.came(0, 4, 0));
    refused("came(0, 0, 4)", Due.BEYOND, x -> x.came(0, 0, 4));
    refused("came(3, 0, 0)", Due.NONE, x -> x.came(3, 0, 0));
    refused("came(2, 0, 0)", Due.NONE, x -> x.came(2, 0, 0));
    refused("count(17)", Due.BEYOND, x -> x.count(17));
    refused("told(0)", Due.BEYOND, x -> x.told(0));
    refused("told(7)", Due.BEYOND, x -> x.told(7));
  }

  private static LeftLacks full() {
    LeftLacks x = made(3);
    x.shop(9);
    x.shop(19);
    for (int i = 0; i < 5; i++) {
      x.customer(1, 10, 10);
    }
    for (int i = 0; i < 22; i++) {
      x.tell(i);
    }
    x.feed(0x2b6b2b6b2b6b2b2bL, 8);
    for (int i = 0; i < 6; i++) {
      x.feed(0x2b6b2b6b2b6b2b6bL, 8);
    }
    return x;
  }

  private static void fullOfAll() {
    Due.by("FULL changes nothing but what told() tells");
    alike("shop(5)", full(), full(), Due.FULL, x -> x.shop(5));
    alike("customer(1, 10, 5)", full(), full(), Due.FULL, x -> x.customer(1, 10, 5));
    alike("feed(0, 2)", full(), full(), Due.FULL, x -> x.feed(0, 2));
    alike("feed(0, 8)", full(), full(), Due.FULL, x -> x.feed(0, 8));
    alike("tell(5)", full(), full(), Due.FULL, x -> x.tell(5));
  }

  private static LeftLacks late() {
    LeftLacks x = made(0);
    for (int i = 0; i < 166; i++) {
      x.days(60);
    }
    x.days(30);
    return x;
  }

  private static void atTheLastDay() {
    Due.by("STATE changes nothing but what told() tells");
    alike("days(7)", late(), late(), Due.STATE, x -> x.days(7));
    alike("loose(7)", late(), late(), Due.STATE, x -> x.loose(7));
    alike("days(60)", late(), late(), Due.STATE, x -> x.days(60));
  }

  private static void withNothing() {
    Due.by("NONE, STATE, KIND change nothing but what told() tells");
    alike("leave()", new LeftLacks(), new LeftLacks(), Due.STATE, x -> x.leave());
    alike("restore()", new LeftLacks(), new LeftLacks(), Due.NONE, x -> x.restore());
    alike("restore()", made(0), made(0), Due.NONE, x -> x.restore());
    alike("body(0)", new LeftLacks(), new LeftLacks(), Due.NONE, x -> x.body(0));
    alike("out(0, 0)", made(0), made(0), Due.STATE, x -> x.out(0, 0));
    alike("as(0, 6)", made(0), made(0), Due.KIND, x -> x.as(0, 6));
    alike("walk(4)", emptied(), emptied(), Due.NONE, x -> x.walk(4));
    alike("came(0, 0, 1)", made(0), made(0), Due.NONE, x -> x.came(0, 0, 1));
    alike("came(0, 0, 2)", made(0), made(0), Due.NONE, x -> x.came(0, 0, 2));
    Due.by("PARTED changes THE TRACE alone");
    LeftLacks x = made(0);
    LeftLacks twin = made(0);
    Due.due("PARTED", x.voice(0, 3, 9), Due.PARTED);
    int bodies = x.count(9);
    x.voice(0, 0, 1);
    twin.voice(0, 0, 1);
    Due.due("BODIES", bodies, 1);
    Due.due("alike behind PARTED", report(x).equals(report(twin)) ? 1 : 0, 1);
  }

  private static LeftLacks emptied() {
    LeftLacks x = made(0);
    for (int i = 0; i < 4; i++) {
      for (int good = 0; good < 6; good++) {
        x.set(i, 9 + good, 0);
      }
    }
    return x;
  }

  /** What only asks leaves all as it was, too; but for voice(), which leaves THE TRACE. */
  private static void asks() {
    Due.by("what would be, and what is only asked, changes nothing");
    for (int setting = 0; setting < SETTINGS; setting++) {
      LeftLacks x = made(setting);
      LeftLacks twin = made(setting);
      for (int shop = 0; shop < 4; shop++) {
        x.then(9, shop, 2);
        x.keep(shop, 1, 3);
        x.range(shop, 2);
        x.turn(shop, 3);
        x.joined(shop, 3);
        x.out(shop, 2);
        x.came(1, shop, shop);
        x.as(shop, 0);
        x.price(shop, 0);
        x.fills(shop, 0);
      }
      for (int i = 0; i < 5; i++) {
        x.walk(i);
      }
      x.judge(0);
      x.judge(1);
      Due.due("alike behind asking " + setting, report(x).equals(report(twin)) ? 1 : 0, 1);
    }
  }
}
