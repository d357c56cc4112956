/** Term 1 from BUYERS on, sentence by sentence: each one that names an edge. */
public final class DayEdgesTest {
  public static void main(String[] args) {
    buyersBesideNobody();
    buyersAndM();
    buyersFirstGood();
    buyersByNumbers();
    buyersPay();
    pursesInMornings();
    pursesInVisits();
    pursesOfBuyers();
    stepsInRows();
    stepsInRings();
    coins();
    goodsByNumbers();
    wantsAndHad();
    sales();
    looseDays();
    draws();
    nobodyThere();
    Due.end("DayEdgesTest");
  }

  private static void buyersBesideNobody() {
    Due.by("each BUYER that has somebody else TO THE LEFT");
    LeftLacks first = Rows.row(59, 0);
    first.set(0, 3, 8);
    first.set(1, 3, 2);
    Due.due("the first in a row", first.morning(), 6);
    Due.due("has its own", first.shopIs(0, 9), 4);
    Due.due("the other one its own", first.shopIs(1, 9), 2);
    first.rule(0, 1);
    first.morning();
    Due.due("the first in a ring", first.shopIs(0, 9), 6);
    Due.due("the last is bought out", first.shopIs(1, 9), 0);
    LeftLacks alone = Rows.ring(59);
    alone.set(0, 3, 8);
    Due.due("alone in a ring", alone.morning(), 4);
    Due.due("pays COST alone", alone.shopIs(0, 2), -20);
    Due.by("BUYER (of KIND 5)");
    for (int kind = 0; kind <= 6; kind++) {
      LeftLacks x = Rows.row(0, 10 * kind + 9);
      x.set(0, 3, 2);
      x.set(1, 4, 2);
      x.set(0, 4, 2);
      x.morning();
      boolean buys = kind == 5;
      Due.due("KIND " + kind, x.shopIs(0, 10), buys ? 0 : 2);
    }
  }

  /** What the BUYER with m has, that has 1 of GOOD 0 itself, beside one that has so many. */
  private static void beside(int m, int others, int due) {
    LeftLacks x = Rows.row(0, 50 + m);
    x.set(0, 3, others);
    x.set(1, 3, 2);
    x.morning();
    Due.due("m " + m + " beside " + others, x.shopIs(1, 9), due);
    Due.due("of the other one's " + others, x.shopIs(0, 9), due == 1 ? others : 0);
  }

  private static void buyersAndM() {
    Due.by("the other one has some, but not more than m");
    beside(0, 0, 1);
    beside(0, 1, 1);
    beside(1, 0, 1);
    beside(1, 1, 2);
    beside(1, 2, 1);
    beside(8, 8, 9);
    beside(8, 9, 1);
    beside(9, 9, 10);
  }

  private static void buyersFirstGood() {
    Due.by("the first GOOD of which it has some itself");
    LeftLacks x = Rows.row(0, 59);
    for (int good = 0; good < 6; good++) {
      x.set(0, 3 + good, 3);
    }
    x.set(1, 3, 1);
    x.set(1, 7, 2);
    x.set(1, 8, 2);
    x.morning();
    int[] due = {0, 0, 0, 0, 4, 1};
    for (int good = 0; good < 6; good++) {
      Due.due("GOOD " + good, x.shopIs(1, 9 + good), due[good]);
    }
    Due.due("no other one is bought", x.shopIs(0, 14), 3);
    Due.by("and the other one has some: else the next GOOD");
    LeftLacks next = Rows.row(0, 52);
    next.set(0, 4, 2);
    next.set(1, 3, 2);
    next.set(1, 4, 2);
    next.morning();
    Due.due("GOOD 0, of which the other one has none", next.shopIs(1, 9), 1);
    Due.due("GOOD 1", next.shopIs(1, 10), 3);
    Due.by("but not more than m: else the next GOOD");
    next.set(0, 3, 3);
    next.morning();
    Due.due("GOOD 0, of which the other one has 3", next.shopIs(0, 9), 3);
    Due.due("GOOD 1", next.shopIs(1, 10), 3);
    Due.by("none of which both have some");
    LeftLacks none = Rows.row(0, 59);
    none.set(0, 3, 3);
    none.set(1, 4, 2);
    Due.due("nothing is bought", none.morning(), 4);
    Due.due("PURSE", none.shopIs(1, 2), -5);
  }

  private static void buyersByNumbers() {
    Due.by("by numbers each BUYER");
    LeftLacks x = Rows.row(0, 59, 59);
    x.set(0, 3, 1);
    x.set(1, 3, 2);
    x.set(2, 3, 2);
    x.morning();
    Due.due("the first", x.shopIs(0, 9), 0);
    Due.due("the second bought one and is bought out of two", x.shopIs(1, 9), 0);
    Due.due("the third", x.shopIs(2, 9), 3);
    LeftLacks more = Rows.row(0, 59, 51);
    more.set(0, 3, 1);
    more.set(1, 3, 2);
    more.set(2, 3, 2);
    more.morning();
    Due.due("the second has more than m by then", more.shopIs(1, 9), 2);
    LeftLacks around = Rows.ring(59, 59);
    around.set(0, 3, 2);
    around.set(1, 3, 2);
    around.morning();
    Due.due("the first buys", around.shopIs(0, 9), 2);
    Due.due("the second has none itself by then", around.shopIs(1, 9), 0);
  }

  private static void buyersPay() {
    Due.by("pays the other one's PRICE for each");
    LeftLacks x = Rows.row(39, 52);
    x.cost(0, 7);
    x.set(0, 3, 9);
    x.set(1, 3, 2);
    x.morning();
    Due.due("out of the one PURSE", x.shopIs(1, 2), -7 - 21);
    Due.due("into the other one's", x.shopIs(0, 2), -7 + 21);
    Due.by("PRICE (as it is ahead)");
    LeftLacks told = Rows.row(60, 59);
    told.cost(0, 0);
    told.set(0, 3, 3);
    told.set(1, 3, 2);
    Due.tellText(told, 1, "s*10");
    told.morning();
    Due.due("three at 30", told.shopIs(0, 2), 90);
    Due.by("BUYING OUT is no sale of a DAY");
    Due.due("SALES", told.days(1), 0);
  }

  private static void pursesInMornings() {
    Due.by("a PURSE (held within -999999 .. 999999), in a MORNING");
    LeftLacks x = Rows.row(60);
    for (int good = 0; good < 6; good++) {
      x.cost(good, 99);
    }
    int purse = 0;
    for (int i = 0; i < 18; i++) {
      Due.tellText(x, 0, "99");
      x.morning();
      purse = Math.max(-999999, purse - 6 * 99 * 99);
      Due.due("PURSE", x.shopIs(0, 2), purse);
      Due.tellText(x, 0, "0");
      x.morning();
    }
    Due.due("PURSE", x.shopIs(0, 2), -999999);
    Due.by("it goes on from where it is held");
    x.customer(1, 10, 999);
    x.set(0, 9, 1);
    x.visit(0);
    Due.due("PURSE", x.shopIs(0, 2), -999999 + 198);
  }

  /** A SHOP whose PURSE is so much, by sales at no COST. */
  private static LeftLacks rich(int km, int purse) {
    LeftLacks x = Rows.row(km);
    x.set(0, 0, 6);
    for (int good = 0; good < 6; good++) {
      x.cost(good, 0);
    }
    for (int i = 0; i < 10; i++) {
      x.customer(1, 10, 999);
    }
    Due.tellText(x, 0, "99");
    Due.tellText(x, 1, "999");
    x.days(60);
    x.days(40);
    earn(x, purse - 999000);
    x.untell(0);
    x.untell(1);
    x.set(0, 0, km / 10);
    for (int i = 0; i < 10; i++) {
      x.leave();
    }
    return x;
  }

  /** One more sale, at a PRICE of at most 999. */
  private static void earn(LeftLacks x, int price) {
    long word = 0;
    for (int rest = price, i = 0; i < 3; i++, rest /= 10) {
      word = word << 8 | '0' + rest % 10;
    }
    x.feed(word, 3);
    x.text(1);
    x.visit(0);
  }

  private static void pursesInVisits() {
    Due.by("a PURSE (held within -999999 .. 999999), in a VISIT");
    LeftLacks x = rich(0, 999988);
    Due.due("PURSE", x.shopIs(0, 2), 999988);
    x.customer(1, 10, 999);
    x.cost(0, 5);
    x.set(0, 9, 3);
    x.visit(0);
    Due.due("one more", x.shopIs(0, 2), 999998);
    x.visit(0);
    Due.due("held", x.shopIs(0, 2), 999999);
    Due.due("sold all the same", x.visit(0), 1);
    Due.due("held", x.shopIs(0, 2), 999999);
    Due.by("it goes on from where it is held");
    x.set(0, 3, 2);
    x.morning();
    Due.due("less", x.shopIs(0, 2), 999989);
  }

  private static void pursesOfBuyers() {
    Due.by("a PURSE (held within -999999 .. 999999), in BUYING OUT: each by itself");
    LeftLacks x = rich(0, 999990);
    x.shop(59);
    x.set(0, 3, 5);
    x.set(1, 3, 2);
    x.set(0, 9, 5);
    x.set(1, 9, 1);
    x.cost(0, 40);
    x.morning();
    Due.due("held", x.shopIs(0, 2), 999999);
    Due.due("all is paid", x.shopIs(1, 2), -400);
    Due.due("PURSES of all", x.count(6), 999599);
  }

  private static LeftLacks sixOfTheirOwn() {
    LeftLacks x = Rows.row(0, 0, 0, 0, 0, 0);
    for (int i = 0; i < 6; i++) {
      x.set(i, 9 + i, 2);
    }
    return x;
  }

  private static void stepsInRows() {
    Due.by("STEPS SHOPS at most, till the other end");
    for (int steps = 1; steps <= 12; steps++) {
      LeftLacks x = sixOfTheirOwn();
      x.customer(63, 10 * steps, 999);
      x.customer(63, 10 * steps + 1, 999);
      int most = Math.min(steps, 6);
      Due.due(steps + " from the left", x.visit(0), (1 << most) - 1);
      Due.due(steps + " from the right", x.visit(1), 63 & 63 << (6 - most));
    }
    LeftLacks one = Rows.row(0);
    one.set(0, 9, 2);
    one.customer(1, 120, 999);
    Due.due("a row of one", one.visit(0), 1);
    Due.due("only once", one.shopIs(0, 9), 1);
  }

  private static void stepsInRings() {
    Due.by("STEPS SHOPS at most (in a RING on round)");
    for (int steps = 1; steps <= 12; steps++) {
      LeftLacks x = sixOfTheirOwn();
      x.rule(0, 1);
      x.customer(63, 10 * steps, 999);
      x.customer(63, 10 * steps + 1, 999);
      int most = Math.min(steps, 6);
      Due.due(steps + " from the left", x.visit(0), (1 << most) - 1);
      Due.due(steps + " from the right", x.visit(1), 63 & 63 << (6 - most));
    }
    LeftLacks alone = Rows.ring(0);
    alone.set(0, 9, 1);
    alone.customer(1, 120, 999);
    Due.due("alone in a ring", alone.visit(0), 0);
    Due.by("what it MAY sell now: a sale on the way lets the next one sell");
    LeftLacks two = Rows.row(0, 0);
    two.set(0, 9, 1);
    two.set(1, 9, 1);
    two.customer(1, 20, 999);
    two.customer(1, 21, 999);
    Due.due("from the right the second may not, but the first", two.visit(1), 1);
    Due.due("the first sold it", two.shopIs(0, 9), 0);
    Due.due("now the second", two.visit(0), 1);
    Due.due("sold it", two.shopIs(1, 9), 0);
  }

  private static void coins() {
    Due.by("whose PRICE is no more than what is left of COIN");
    int[] coins = {0, 9, 10, 13, 14, 999};
    int[] due = {0, 4, 1, 1, 5, 7};
    for (int i = 0; i < coins.length; i++) {
      LeftLacks x = Rows.row(0);
      x.cost(1, 30);
      x.cost(2, 2);
      for (int good = 0; good < 3; good++) {
        x.set(0, 9 + good, 5);
      }
      x.customer(7, 10, coins[i]);
      Due.due("with " + coins[i], x.visit(0), due[i]);
      Due.due("again with " + coins[i], x.visit(0), due[i]);
    }
    Due.by("PRICE 0 and COIN 0");
    LeftLacks free = Rows.row(0);
    free.cost(0, 0);
    free.set(0, 9, 1);
    free.customer(1, 10, 0);
    Due.due("for nothing", free.visit(0), 1);
    Due.by("COIN (of this VISIT) less");
    LeftLacks way = Rows.row(0, 0);
    way.set(0, 9, 1);
    way.set(1, 10, 1);
    way.customer(3, 20, 19);
    way.customer(3, 20, 20);
    Due.due("19", way.visit(0), 1);
    way.set(0, 9, 1);
    Due.due("20", way.visit(1), 3);
    Due.due("COIN stays", way.customerIs(1, 3), 20);
  }

  private static void goodsByNumbers() {
    Due.by("in each by numbers of GOODS");
    LeftLacks x = Rows.row(0);
    for (int good = 0; good < 6; good++) {
      x.set(0, 9 + good, 1);
    }
    x.customer(63, 10, 35);
    Due.due("the first three", x.visit(0), 7);
    Due.due("then the others", x.visit(0), 56);
    Due.due("then nothing", x.visit(0), 0);
  }

  private static void wantsAndHad() {
    Due.by("one that is WANTED and not had yet");
    LeftLacks x = Rows.row(0, 0);
    x.set(0, 9, 1);
    x.set(1, 9, 1);
    x.set(1, 10, 1);
    x.customer(1, 20, 999);
    x.customer(0, 20, 999);
    x.customer(62, 21, 999);
    Due.due("wants nothing", x.visit(1), 0);
    Due.due("wants one", x.visit(0), 1);
    Due.due("STOCK of the second, though it may sell then", x.shopIs(1, 9), 1);
    Due.due("wants all others", x.visit(2), 2);
    Due.by("STOCK 1 less");
    LeftLacks two = Rows.row(0);
    two.set(0, 9, 2);
    two.customer(1, 10, 999);
    two.visit(0);
    Due.due("one is left", two.shopIs(0, 9), 1);
    two.visit(0);
    Due.due("none is left", two.visit(0), 0);
  }

  private static void sales() {
    Due.by("SALES: how many things were sold on the latest DAY");
    LeftLacks x = Rows.row(0);
    x.set(0, 3, 9);
    x.set(0, 8, 9);
    for (int i = 0; i < 10; i++) {
      x.customer(33, 10, 999);
    }
    Due.due("days(1)", x.days(1), 18);
    Due.due("days(60)", x.days(60), 18);
    x.visit(0);
    x.morning();
    x.visit(0);
    Due.due("a VISIT alone, a MORNING alone", x.count(3), 18);
    x.set(0, 3, 0);
    x.set(0, 8, 0);
    Due.due("none", x.days(1), 0);
    Due.due("none", x.count(3), 0);
    Due.by("VISITS of all CUSTOMERS by numbers");
    LeftLacks few = Rows.row(0);
    few.cost(1, 6);
    few.set(0, 4, 1);
    few.set(0, 3, 1);
    few.customer(2, 10, 12);
    few.customer(3, 10, 999);
    Due.due("each buys one", few.days(1), 2);
    few.leave();
    few.leave();
    few.customer(3, 10, 999);
    few.customer(2, 10, 12);
    Due.due("the first buys both", few.days(1), 2);
    Due.by("DAYS so far are 1 more when all have gone");
    LeftLacks told = Rows.row(60);
    told.set(0, 3, 2);
    told.cost(0, 0);
    told.customer(1, 10, 0);
    Due.tellText(told, 1, "d");
    Due.due("on the first DAY for nothing", told.days(1), 1);
    Due.due("on the second for 1", told.days(1), 0);
  }

  private static void looseDays() {
    Due.by("ahead of each VISIT a draw: if its rest by 4 is 0, there is none");
    for (int seed = -3; seed <= 40; seed++) {
      LeftLacks x = Rows.row(0);
      x.set(0, 3, 9);
      x.customer(1, 10, 999);
      x.seed(seed);
      int z = seed * 1103515245 + 12345;
      Due.due("seed " + seed, x.loose(1), (z >>> 8) % 4 == 0 ? 0 : 1);
      Due.due("z behind " + seed, x.count(10), z);
    }
    Due.by("draws go by CUSTOMERS, not by what they buy");
    LeftLacks x = Rows.row(0);
    x.customer(0, 10, 0);
    x.customer(63, 10, 0);
    int z = 1;
    for (int i = 0; i < 6; i++) {
      z = z * 1103515245 + 12345;
    }
    Due.due("three DAYS of two", x.loose(3), 0);
    Due.due("z", x.count(10), z);
    x.leave();
    x.leave();
    x.loose(5);
    Due.due("nobody, no draws", x.count(10), z);
    Due.due("DAYS", x.count(2), 8);
    Due.by("each VISIT has a draw of its own");
    LeftLacks two = Rows.row(0);
    two.set(0, 3, 9);
    two.customer(1, 10, 999);
    two.customer(1, 10, 999);
    int sold = 0;
    int w = 99;
    two.seed(99);
    for (int day = 0; day < 40; day++) {
      sold = 0;
      for (int i = 0; i < 2; i++) {
        w = w * 1103515245 + 12345;
        sold += (w >>> 8) % 4 == 0 ? 0 : 1;
      }
      Due.due("day " + day, two.loose(1), sold);
    }
  }

  private static void draws() {
    Due.by("z is told (1 at first)");
    LeftLacks x = new LeftLacks();
    Due.due("z", x.count(10), 1);
    Due.due("seed()", x.seed(Integer.MAX_VALUE), 1);
    Due.due("seed()", x.seed(Integer.MIN_VALUE), Integer.MAX_VALUE);
    Due.due("z", x.count(10), Integer.MIN_VALUE);
    Due.by("each makes it z * 1103515245 + 12345 (an int)");
    x.customer(0, 10, 0);
    x.loose(1);
    Due.due("wraps", x.count(10), Integer.MIN_VALUE + 12345);
    x.seed(0);
    x.loose(1);
    Due.due("of 0", x.count(10), 12345);
    x.seed(-1);
    x.loose(1);
    Due.due("of -1", x.count(10), 12345 - 1103515245);
    Due.by("days() draws nothing");
    x.days(1);
    Due.due("z", x.count(10), 12345 - 1103515245);
  }

  private static void nobodyThere() {
    Due.by("no SHOPS, no CUSTOMERS");
    for (int isRing = 0; isRing <= 1; isRing++) {
      LeftLacks x = new LeftLacks();
      x.rule(0, isRing);
      Due.due("morning()", x.morning(), 0);
      Due.due("days(60)", x.days(60), 0);
      Due.due("loose(60)", x.loose(60), 0);
      Due.due("DAYS", x.count(2), 120);
      Due.due("PURSES of all", x.count(6), 0);
      x.customer(63, 120, 999);
      x.customer(63, 121, 999);
      Due.due("a VISIT", x.visit(0), 0);
      Due.due("a VISIT from the right", x.visit(1), 0);
      Due.due("days(1)", x.days(1), 0);
    }
  }
}
