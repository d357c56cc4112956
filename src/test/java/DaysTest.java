/** Promises 16 to 20. */
public final class DaysTest {
  public static void main(String[] args) {
    mornings();
    buyers();
    buyersAtEdges();
    purseIsHeld();
    visits();
    visitsAlongEnds();
    visitsByTexts();
    days();
    looseDays();
    Due.end("DaysTest");
  }

  private static void mornings() {
    LeftLacks x = new LeftLacks();
    Due.due("16 without shops", x.morning(), 0);
    x.shop(0);
    x.shop(10);
    x.cost(0, 7);
    x.set(0, 3, 4);
    x.set(1, 3, 5);
    x.set(1, 4, 6);
    x.set(1, 11, 9);
    Due.due("16 morning()", x.morning(), 10);
    Due.due("16 filled", x.shopIs(0, 9), 4);
    Due.due("16 the lacker fills behind the left one", x.shopIs(1, 9), 0);
    Due.due("16 what nobody keeps is thrown away", x.shopIs(1, 11), 0);
    Due.due("16 paid", x.shopIs(0, 2), -28);
    Due.due("16 paid", x.shopIs(1, 2), -30);
    x.set(0, 9, 9);
    Due.due("16 less than there was", x.morning(), 10);
    Due.due("16 nothing is paid then", x.shopIs(0, 2), -28);
    x.set(0, 9, 1);
    x.morning();
    Due.due("16 only what is more is paid", x.shopIs(0, 2), -28 - 21);
    Due.due("16 no day", x.count(2), 0);
    LeftLacks ring = new LeftLacks();
    ring.shop(10);
    ring.shop(0);
    ring.rule(0, 1);
    ring.set(0, 3, 4);
    ring.set(1, 3, 2);
    Due.due("16 ring: the last has none yet", ring.morning(), 6);
    Due.due("16 ring: now it has", ring.morning(), 2);
    Due.due("16 ring: thrown away", ring.shopIs(0, 9), 0);
  }

  /** A SHOP with so much of GOODS 1, 2 (none paid for), and a BUYER to its right. */
  private static LeftLacks beside(int km, int first, int second, int buyerM) {
    LeftLacks x = new LeftLacks();
    x.shop(km);
    x.shop(50 + buyerM);
    x.set(0, 4, first);
    x.set(0, 5, second);
    x.set(0, 10, first);
    x.set(0, 11, second);
    x.set(1, 4, 4);
    x.set(1, 5, 4);
    x.set(1, 10, 2);
    x.set(1, 11, 2);
    return x;
  }

  private static void buyers() {
    LeftLacks x = beside(0, 3, 3, 3);
    Due.due("16 buyer: nothing is lost", x.morning(), 10);
    Due.due("16 buyer: the first good", x.shopIs(1, 10), 5);
    Due.due("16 buyer: of the other none", x.shopIs(0, 10), 0);
    Due.due("16 buyer: only one good", x.shopIs(1, 11), 2);
    Due.due("16 buyer: pays", x.shopIs(1, 2), -30);
    Due.due("16 buyer: into the other purse", x.shopIs(0, 2), 30);
    x = beside(0, 4, 3, 3);
    x.morning();
    Due.due("16 buyer: not more than m", x.shopIs(1, 10), 2);
    Due.due("16 buyer: the next good", x.shopIs(1, 11), 5);
    x = beside(0, 3, 3, 3);
    x.set(1, 4, 1);
    x.set(1, 10, 0);
    x.morning();
    Due.due("16 buyer: has none itself", x.shopIs(1, 10), 0);
    Due.due("16 buyer: the next good", x.shopIs(1, 11), 5);
    x.set(1, 4, 2);
    x.set(1, 10, 1);
    x.set(0, 10, 3);
    x.morning();
    Due.due("16 buyer: has one itself", x.shopIs(1, 10), 4);
    x = beside(30, 9, 0, 3);
    x.morning();
    Due.due("16 buyer: pays the other one's price", x.shopIs(1, 2), -15);
    x = beside(60, 2, 0, 3);
    Due.tellText(x, 1, "s*10");
    x.morning();
    Due.due("16 buyer: the price as it is ahead", x.shopIs(1, 2), -40);
    x = beside(0, 3, 3, 3);
    x.rule(1, 2);
    x.morning();
    Due.due("5 law 2: the morning ends behind buying out", x.shopIs(1, 15), 2);
    x = beside(0, 3, 3, 3);
    x.set(1, 0, 2);
    x.morning();
    Due.due("16 a half buys nothing", x.shopIs(1, 10), 2);
  }

  private static void buyersAtEdges() {
    LeftLacks x = new LeftLacks();
    x.shop(59);
    x.set(0, 3, 4);
    x.rule(0, 1);
    Due.due("16 a buyer alone in a ring", x.morning(), 2);
    Due.due("16 pays only cost", x.shopIs(0, 2), -10);
    x = new LeftLacks();
    x.shop(55);
    x.shop(55);
    x.rule(0, 1);
    x.set(0, 3, 4);
    x.set(1, 3, 6);
    x.morning();
    Due.due("16 ring: the first buys the last out", x.shopIs(0, 9), 5);
    Due.due("16 ring: which then has none", x.shopIs(1, 9), 0);
    x = new LeftLacks();
    x.shop(60);
    x.shop(59);
    x.set(1, 3, 9);
    x.cost(0, 0);
    Due.tellText(x, 0, "g=0&9");
    Due.tellText(x, 1, "999");
    x.morning();
    Due.due("16 buys one", x.shopIs(1, 2), -999);
    x = new LeftLacks();
    x.shop(60);
    x.shop(59);
    x.set(0, 3, 9);
    x.set(1, 3, 8);
    x.morning();
    Due.due("16 buys nine", x.shopIs(1, 9), 13);
  }

  private static void purseIsHeld() {
    LeftLacks x = new LeftLacks();
    x.shop(60);
    x.cost(0, 99);
    x.cost(1, 99);
    Due.tellText(x, 0, "(g<2)*99");
    for (int i = 0; i < 60; i++) {
      x.set(0, 9, 0);
      x.set(0, 10, 0);
      x.morning();
    }
    Due.due("1 held above -999999", x.shopIs(0, 2), -999999);
    Due.due("40 purses of all", x.count(6), -999999);
    x = new LeftLacks();
    x.shop(60);
    x.cost(0, 0);
    for (int i = 0; i < 10; i++) {
      x.customer(1, 10, 999);
    }
    Due.tellText(x, 0, "99");
    Due.tellText(x, 1, "999");
    x.days(60);
    x.days(60);
    Due.due("1 held below 999999", x.shopIs(0, 2), 999999);
  }

  private static void visits() {
    LeftLacks x = new LeftLacks();
    x.shop(0);
    x.shop(20);
    x.customer(63, 20, 999);
    Due.due("17 nothing there", x.visit(0), 0);
    x.set(0, 9, 1);
    x.set(1, 9, 2);
    x.set(1, 10, 2);
    Due.due("17 both", x.visit(0), 3);
    Due.due("17 stock", x.shopIs(0, 9), 0);
    Due.due("17 not twice", x.shopIs(1, 9), 2);
    Due.due("17 stock", x.shopIs(1, 10), 1);
    Due.due("17 purse", x.shopIs(0, 2), 10);
    Due.due("17 purse", x.shopIs(1, 2), 10);
    Due.due("17 now the left one lacks it", x.visit(0), 3);
    Due.due("17 stock", x.shopIs(1, 9), 1);
    Due.due("17 no sales of a day", x.count(3), 0);
    Due.due("17 coin is the visit's own", x.customerIs(0, 3), 999);
    Due.due("17 visit(1)", x.visit(1), Due.BEYOND);
    Due.due("17 visit(-1)", x.visit(-1), Due.BEYOND);
    LeftLacks poor = new LeftLacks();
    poor.shop(0);
    poor.cost(1, 4);
    poor.cost(2, 1);
    poor.set(0, 9, 1);
    poor.set(0, 10, 1);
    poor.set(0, 11, 1);
    poor.customer(7, 10, 12);
    poor.customer(7, 10, 9);
    Due.due("17 what coin is left for", poor.visit(0), 0b101);
    poor.set(0, 9, 1);
    Due.due("17 what coin does for", poor.visit(1), 0b010);
  }

  private static LeftLacks rowOfThree() {
    LeftLacks x = new LeftLacks();
    for (int i = 0; i < 3; i++) {
      x.shop(0);
      x.set(i, 9 + i, 1);
    }
    return x;
  }

  private static void visitsAlongEnds() {
    int[] dueFromLeft = {1, 3, 7};
    int[] dueFromRight = {4, 6, 7};
    for (int steps = 1; steps <= 3; steps++) {
      LeftLacks x = rowOfThree();
      x.customer(7, 10 * steps, 999);
      Due.due("17 from the left", x.visit(0), dueFromLeft[steps - 1]);
      x = rowOfThree();
      x.customer(7, 10 * steps + 1, 999);
      Due.due("17 from the right", x.visit(0), dueFromRight[steps - 1]);
    }
    // a second time round sells nothing more: of what it still wants nothing has changed on its way
    LeftLacks x = rowOfThree();
    x.rule(0, 1);
    x.set(1, 11, 1);
    x.set(2, 9, 1);
    x.customer(7, 120, 999);
    Due.due("17 on round in a ring", x.visit(0), 0b111);
    Due.due("17 ring: the last one's is sold by the second", x.shopIs(1, 11), 0);
    Due.due("17 ring: the last has it still", x.shopIs(2, 11), 1);
    Due.due("17 ring: the first may not sell what the last has", x.shopIs(0, 9), 1);
    Due.due("17 ring: the last sold it", x.shopIs(2, 9), 0);
    LeftLacks none = new LeftLacks();
    none.customer(63, 120, 999);
    Due.due("17 no shops", none.visit(0), 0);
    none.rule(0, 1);
    Due.due("17 no shops in a ring", none.visit(0), 0);
  }

  private static void visitsByTexts() {
    LeftLacks x = new LeftLacks();
    x.shop(60);
    x.set(0, 9, 9);
    x.customer(1, 10, 90);
    Due.tellText(x, 1, "s*10");
    Due.due("17 at the price as it is", x.visit(0), 1);
    Due.due("17 purse", x.shopIs(0, 2), 90);
    Due.due("17 and less then", x.price(0, 0), 80);
  }

  private static void days() {
    LeftLacks x = new LeftLacks();
    x.shop(0);
    x.set(0, 3, 2);
    for (int i = 0; i < 3; i++) {
      x.customer(1, 10, 10);
    }
    Due.due("18 days(1)", x.days(1), 2);
    Due.due("18 sales", x.count(3), 2);
    Due.due("18 days so far", x.count(2), 1);
    Due.due("18 purse", x.shopIs(0, 2), 10);
    Due.due("18 stock", x.shopIs(0, 9), 0);
    Due.due("18 days(60)", x.days(60), 2);
    Due.due("18 purse", x.shopIs(0, 2), 610);
    Due.due("18 days(0)", x.days(0), Due.BEYOND);
    Due.due("18 days(61)", x.days(61), Due.BEYOND);
    Due.due("18 days(-1)", x.days(-1), Due.BEYOND);
    for (int i = 0; i < 165; i++) {
      x.days(60);
    }
    Due.due("18 days so far", x.count(2), 61 + 9900);
    Due.due("18 above 9999", x.days(39), Due.STATE);
    Due.due("19 above 9999", x.loose(39), Due.STATE);
    Due.due("18 nothing changed", x.count(2), 9961);
    Due.due("18 9999", x.days(38), 2);
    Due.due("18 above 9999", x.days(1), Due.STATE);
    Due.due("18 beyond ahead of state", x.days(61), Due.BEYOND);
    Due.due("18 told(3)", x.told(3), 3);
    Due.due("3 AHEAD goes beyond 9999", x.then(1, 0, 9), 0);
    pricesOfDays();
  }

  private static void pricesOfDays() {
    LeftLacks x = new LeftLacks();
    x.shop(60);
    x.set(0, 3, 1);
    x.cost(0, 0);
    x.customer(1, 10, 999);
    Due.tellText(x, 1, "100+d");
    x.days(1);
    Due.due("18 the first day is 1 more when it is over", x.shopIs(0, 2), 100);
    x.days(1);
    Due.due("18 the second", x.shopIs(0, 2), 201);
  }

  private static void looseDays() {
    LeftLacks x = new LeftLacks();
    x.shop(0);
    x.set(0, 3, 9);
    for (int i = 0; i < 5; i++) {
      x.customer(1, 10, 999);
    }
    Due.due("20 seed(7)", x.seed(7), 1);
    int z = 7;
    for (int day = 1; day <= 20; day++) {
      int sold = 0;
      for (int i = 0; i < 5; i++) {
        z = z * 1103515245 + 12345;
        sold += (z >>> 8) % 4 == 0 ? 0 : 1;
      }
      Due.due("19 loose(1)", x.loose(1), sold);
      Due.due("19 sales", x.count(3), sold);
      Due.due("19 z", x.count(10), z);
      Due.due("19 days so far", x.count(2), day);
    }
    Due.due("20 seed(any)", x.seed(-2000000000), z);
    Due.due("20 z is any number, no ERROR", x.seed(1), -2000000000);
    Due.due("20 told nothing", x.told(1), 0);
    Due.due("19 loose(0)", x.loose(0), Due.BEYOND);
    Due.due("19 loose(61)", x.loose(61), Due.BEYOND);
    x.days(3);
    Due.due("18 days draw nothing", x.count(10), 1);
    x.loose(3);
    for (int i = 0, w = 1; i < 15; i++) {
      w = w * 1103515245 + 12345;
      z = w;
    }
    Due.due("19 three loose days", x.count(10), z);
  }
}
