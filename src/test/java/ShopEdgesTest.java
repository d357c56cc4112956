/** Term 1, sentence by sentence: each one that names an edge. */
public final class ShopEdgesTest {
  public static void main(String[] args) {
    atFirst();
    fillsByKinds();
    fillsBesideOthers();
    fillsAreHeld();
    pricesByKinds();
    pricesAreHeld();
    toTheLeft();
    lawNought();
    lawOne();
    lawTwo();
    lawTwoInTheMorning();
    mornings();
    morningsByNumbers();
    Due.end("ShopEdgesTest");
  }

  private static void atFirst() {
    LeftLacks x = new LeftLacks();
    Due.by("GOODS 0 .. 5 have a COST (0 .. 99; 5 at first)");
    for (int good = 0; good < 6; good++) {
      Due.due("COST of " + good, x.count(11 + good), 5);
    }
    Due.by("in a RING (1; 0 at first); LAW (0 .. 2; 0 at first)");
    Due.due("RING", x.count(4), 0);
    Due.due("LAW", x.count(5), 0);
    Due.by("KEEPS of each GOOD (0 at first), STOCK of each (0 at first), a PURSE (0 at first)");
    x.shop(69);
    for (int what = 2; what <= 14; what++) {
      Due.due("shopIs(0, " + what + ")", x.shopIs(0, what), 0);
    }
    Due.by("DAYS so far (0 .. 9999), SALES (0 at first)");
    Due.due("DAYS", x.count(2), 0);
    Due.due("SALES", x.count(3), 0);
    Due.by("a new SHOP has nothing of one that was there ahead of restore()");
    LeftLacks y = new LeftLacks();
    y.image();
    y.shop(0);
    y.set(0, 3, 4);
    y.morning();
    y.restore();
    y.shop(69);
    for (int what = 2; what <= 14; what++) {
      Due.due("shopIs(0, " + what + ")", y.shopIs(0, what), 0);
    }
  }

  /** FILLS of a SHOP alone in a row, of so many that it KEEPS. */
  private static void fills(int km, int keeps, int due) {
    LeftLacks x = Rows.row(km);
    x.set(0, 8, keeps);
    Due.due("fills of " + km + " that keeps " + keeps, x.fills(0, 5), due);
  }

  private static void fillsByKinds() {
    Due.by("SHOP: KEEPS");
    fills(9, 0, 0);
    fills(9, 9, 9);
    Due.by("LACKER: as SHOP; nobody lacks all");
    fills(19, 0, 0);
    fills(19, 9, 9);
    Due.by("HALF: half of as SHOP (cut)");
    fills(29, 0, 0);
    fills(29, 1, 0);
    fills(29, 2, 1);
    fills(29, 9, 4);
    Due.by("DEAR: 1, if KEEPS isn't 0");
    fills(39, 0, 0);
    fills(39, 1, 1);
    fills(39, 9, 1);
    Due.by("HOARDER: as LACKER, and m, if as LACKER isn't 0");
    fills(49, 0, 0);
    fills(49, 1, 10);
    fills(49, 9, 18);
    fills(40, 9, 9);
    Due.by("BUYER: as HALF");
    fills(59, 1, 0);
    fills(59, 9, 4);
    Due.by("TOLD without a TEXT k");
    fills(69, 0, 0);
    fills(69, 9, 9);
  }

  private static void fillsBesideOthers() {
    Due.by("LACKER: but 0, if the one TO THE LEFT has some now");
    for (int kind = 1; kind <= 4; kind += 3) {
      LeftLacks x = Rows.row(0, 10 * kind + 2, 0);
      x.set(1, 3, 5);
      int full = kind == 1 ? 5 : 7;
      Due.due("left has none", x.fills(1, 0), full);
      x.set(0, 9, 1);
      Due.due("left has one", x.fills(1, 0), 0);
      x.set(0, 9, 99);
      Due.due("left has most", x.fills(1, 0), 0);
      x.set(0, 9, 0);
      x.set(0, 10, 1);
      x.set(1, 9, 1);
      x.set(2, 9, 1);
      Due.due("another good, itself, the right one", x.fills(1, 0), full);
    }
    Due.by("in a RING the last SHOP (itself, if it is alone)");
    LeftLacks two = Rows.ring(10, 0);
    two.set(0, 3, 5);
    Due.due("the last has none", two.fills(0, 0), 5);
    two.set(1, 9, 1);
    Due.due("the last has one", two.fills(0, 0), 0);
    two.rule(0, 0);
    Due.due("in a row nobody has", two.fills(0, 0), 5);
    LeftLacks one = Rows.ring(10);
    one.set(0, 3, 5);
    Due.due("itself has none", one.fills(0, 0), 5);
    one.set(0, 9, 1);
    Due.due("itself has one", one.fills(0, 0), 0);
  }

  private static void fillsAreHeld() {
    Due.by("FILLS held within 0 .. 99");
    String[] texts = {"0-1", "0", "99", "100", "9999", "8192*8192*32", "0-8192*8192*32+1-2"};
    int[] due = {0, 0, 99, 99, 99, 0, 99};
    for (int i = 0; i < texts.length; i++) {
      LeftLacks x = Rows.row(60);
      Due.due("text " + texts[i], Due.tellText(x, 0, texts[i]), 1);
      Due.due("fills by " + texts[i], x.fills(0, 0), due[i]);
      Due.due("morning by " + texts[i], x.morning(), 6 * due[i]);
    }
  }

  private static void price(int km, int cost, int due) {
    LeftLacks x = Rows.row(km);
    x.cost(5, cost);
    Due.due("price of " + km + " at cost " + cost, x.price(0, 5), due);
  }

  private static void pricesByKinds() {
    Due.by("PRICE: SHOP: twice COST");
    price(9, 0, 0);
    price(9, 99, 198);
    Due.by("LACKER as the KIND above");
    price(19, 0, 0);
    price(19, 99, 198);
    Due.by("HALF: as SHOP, and m");
    price(20, 0, 0);
    price(29, 0, 9);
    price(29, 99, 207);
    Due.by("DEAR: thrice COST");
    price(39, 0, 0);
    price(39, 99, 297);
    Due.by("HOARDER: as LACKER, and COST");
    price(49, 0, 0);
    price(49, 99, 297);
    Due.by("BUYER as the KIND above");
    price(50, 0, 0);
    price(59, 0, 9);
    price(59, 99, 207);
    Due.by("TOLD without a TEXT 2*c");
    price(69, 0, 0);
    price(69, 99, 198);
  }

  private static void pricesAreHeld() {
    Due.by("PRICE held within 0 .. 999");
    String[] texts = {"0-1", "0", "999", "1000", "9999", "8192*8192*32", "0-8192*8192*32+1-2"};
    int[] due = {0, 0, 999, 999, 999, 0, 999};
    for (int i = 0; i < texts.length; i++) {
      LeftLacks x = Rows.row(60);
      x.set(0, 9, 1);
      x.customer(1, 10, 999);
      Due.due("text " + texts[i], Due.tellText(x, 1, texts[i]), 1);
      Due.due("price by " + texts[i], x.price(0, 0), due[i]);
      Due.due("sold by " + texts[i], x.visit(0), 1);
      Due.due("purse by " + texts[i], x.shopIs(0, 2), due[i]);
    }
  }

  private static void toTheLeft() {
    Due.by("TO THE LEFT is the one with the number that is 1 less; of SHOP 0 nobody is");
    LeftLacks x = Rows.row(0, 0, 0, 0, 0, 0);
    for (int shop = 0; shop < 6; shop++) {
      x.set(shop, 9, 1);
    }
    for (int shop = 0; shop < 6; shop++) {
      Due.due("row, SHOP " + shop, x.shopIs(shop, 15), shop == 0 ? 1 : 0);
    }
    for (int lacks = 0; lacks < 6; lacks++) {
      x.set(lacks, 9, 0);
      for (int shop = 1; shop < 6; shop++) {
        Due.due(lacks + " lacks, SHOP " + shop, x.shopIs(shop, 15), shop == lacks + 1 ? 1 : 0);
      }
      x.set(lacks, 9, 1);
    }
    Due.by("or, in a RING, the last SHOP");
    x.rule(0, 1);
    Due.due("ring, SHOP 0", x.shopIs(0, 15), 0);
    x.set(5, 9, 0);
    Due.due("ring, SHOP 0, the last lacks it", x.shopIs(0, 15), 1);
    Due.by("itself, if it is alone");
    LeftLacks alone = Rows.ring(0);
    alone.set(0, 9, 1);
    for (int law = 0; law <= 2; law++) {
      alone.rule(1, law);
      Due.due("alone in a ring, law " + law, alone.shopIs(0, 15), 0);
    }
    alone.rule(0, 0);
    for (int law = 0; law <= 2; law++) {
      alone.rule(1, law);
      Due.due("alone in a row, law " + law, alone.shopIs(0, 15), 1);
    }
  }

  private static void lawNought() {
    Due.by("A SHOP MAY sell a GOOD of which it has some, if the one TO THE LEFT has none of it now");
    LeftLacks x = Rows.row(0, 0, 0);
    for (int law = 0; law <= 2; law++) {
      x.rule(1, law);
      Due.due("it has none, law " + law, x.shopIs(1, 15), 0);
      x.set(1, 14, 1);
      Due.due("it has one, law " + law, x.shopIs(1, 15), 32);
      x.set(0, 14, 1);
      Due.due("so has the left one, law " + law, x.shopIs(1, 15), 0);
      x.set(0, 14, 0);
      x.set(0, 13, 1);
      x.set(2, 14, 1);
      Due.due("the left one another, the right one too, law " + law, x.shopIs(1, 15), 32);
      x.set(0, 13, 0);
      x.set(2, 14, 0);
      x.set(1, 14, 0);
    }
    Due.by("LAW 0 asks neither the one further left nor the MORNING");
    x.rule(1, 0);
    x.set(0, 3, 1);
    x.set(1, 3, 1);
    x.morning();
    x.set(1, 9, 0);
    x.set(2, 9, 1);
    Due.due("further left has some", x.shopIs(2, 15), 1);
  }

  private static void lawOne() {
    Due.by("if also the one TO THE LEFT of that one has none (LAW 1)");
    LeftLacks x = Rows.row(0, 0, 0, 0);
    x.rule(1, 1);
    x.set(2, 9, 1);
    Due.due("both lack it", x.shopIs(2, 15), 1);
    x.set(0, 9, 1);
    Due.due("further left has one", x.shopIs(2, 15), 0);
    x.set(0, 9, 0);
    x.set(1, 9, 1);
    Due.due("the left one has one", x.shopIs(2, 15), 0);
    x.set(1, 9, 0);
    x.set(3, 9, 1);
    Due.due("the right one has one", x.shopIs(2, 15), 1);
    Due.by("nobody lacks all");
    x.set(1, 10, 1);
    Due.due("only one is to the left", x.shopIs(1, 15), 2);
    x.set(0, 11, 1);
    x.set(3, 11, 1);
    Due.due("nobody is to the left", x.shopIs(0, 15), 4);
    Due.by("LAW 1 in a RING of three");
    LeftLacks three = Rows.ring(0, 0, 0);
    three.rule(1, 1);
    three.set(0, 9, 1);
    Due.due("the others lack it", three.shopIs(0, 15), 1);
    three.set(1, 9, 1);
    Due.due("the second has it", three.shopIs(0, 15), 0);
    Due.by("so each SHOP itself lacks it in a RING of two: never");
    LeftLacks two = Rows.ring(0, 0);
    two.rule(1, 1);
    two.set(0, 9, 1);
    two.set(1, 10, 1);
    Due.due("ring of two, SHOP 0", two.shopIs(0, 15), 0);
    Due.due("ring of two, SHOP 1", two.shopIs(1, 15), 0);
    two.rule(0, 0);
    Due.due("row of two, SHOP 0", two.shopIs(0, 15), 1);
    Due.due("row of two, SHOP 1", two.shopIs(1, 15), 2);
  }

  private static void lawTwo() {
    Due.by("if the one TO THE LEFT had none at the end of the latest MORNING (as at first)");
    LeftLacks x = Rows.row(0, 0);
    x.rule(1, 2);
    x.set(1, 9, 1);
    Due.due("at first none had any", x.shopIs(1, 15), 1);
    x.set(0, 3, 1);
    x.set(1, 3, 1);
    x.morning();
    x.set(0, 9, 0);
    Due.due("it had one", x.shopIs(1, 15), 0);
    x.rule(1, 0);
    Due.due("by law 0", x.shopIs(1, 15), 1);
    x.rule(1, 1);
    Due.due("by law 1", x.shopIs(1, 15), 1);
    x.rule(1, 2);
    Due.by("and has none now");
    x.set(0, 3, 0);
    x.morning();
    Due.due("it had none", x.shopIs(1, 15), 1);
    x.set(0, 9, 1);
    Due.due("it has one now", x.shopIs(1, 15), 0);
    Due.by("one that came since had none then");
    x.shop(0);
    x.shop(0);
    x.set(2, 9, 1);
    x.set(3, 10, 1);
    Due.due("behind one that came since", x.shopIs(3, 15), 2);
    Due.due("behind one that had one", x.shopIs(2, 15), 0);
    Due.by("each GOOD by itself");
    for (int good = 0; good < 6; good++) {
      LeftLacks one = Rows.row(0, 0);
      one.rule(1, 2);
      one.set(0, 3 + good, 1);
      one.morning();
      for (int other = 0; other < 6; other++) {
        one.set(0, 9 + other, 0);
        one.set(1, 9 + other, 1);
      }
      Due.due("it had GOOD " + good, one.shopIs(1, 15), 63 - (1 << good));
    }
    Due.by("LAW 2 in a RING");
    LeftLacks ring = Rows.ring(0, 0);
    ring.rule(1, 2);
    ring.set(1, 3, 1);
    ring.morning();
    ring.set(0, 9, 1);
    ring.set(1, 9, 0);
    Due.due("the last had one", ring.shopIs(0, 15), 0);
    ring.shop(0);
    Due.due("the last came since", ring.shopIs(0, 15), 1);
  }

  private static void lawTwoInTheMorning() {
    Due.by("the end of the latest MORNING is behind BUYING OUT");
    LeftLacks x = Rows.row(0, 52);
    x.rule(1, 2);
    x.set(0, 3, 2);
    x.set(1, 3, 2);
    x.morning();
    Due.due("bought out in the morning", x.shopIs(1, 15), 1);
    Due.by("sold since the MORNING: it had some, though it has none now");
    LeftLacks y = Rows.row(0, 0);
    y.rule(1, 2);
    y.set(0, 3, 1);
    y.set(1, 3, 1);
    y.customer(1, 20, 999);
    y.customer(1, 20, 999);
    Due.due("only one is sold", y.days(1), 1);
    Due.due("the second had it", y.shopIs(1, 9), 1);
    y.rule(1, 0);
    Due.due("by law 0 two are sold", y.days(1), 2);
  }

  private static void mornings() {
    Due.by("for each that is more than there was PURSE is COST less");
    LeftLacks x = Rows.row(0);
    x.cost(0, 99);
    x.set(0, 3, 9);
    x.set(0, 9, 8);
    Due.due("one more", x.morning(), 9);
    Due.due("one is paid", x.shopIs(0, 2), -99);
    Due.due("none more", x.morning(), 9);
    Due.due("none is paid", x.shopIs(0, 2), -99);
    Due.by("what is less is thrown away");
    x.set(0, 9, 99);
    x.set(0, 14, 99);
    Due.due("less", x.morning(), 9);
    Due.due("STOCK", x.shopIs(0, 9), 9);
    Due.due("what isn't kept", x.shopIs(0, 14), 0);
    Due.due("nothing is paid back", x.shopIs(0, 2), -99);
    Due.by("COST 0");
    x.cost(0, 0);
    x.set(0, 9, 0);
    x.morning();
    Due.due("PURSE", x.shopIs(0, 2), -99);
    Due.by("16 morning: how many things there are in all SHOPS then");
    LeftLacks full = Rows.row(60, 60, 60, 60, 60, 60);
    Due.tellText(full, 0, "99");
    Due.due("as many as there may be", full.morning(), 6 * 6 * 99);
    Due.tellText(full, 0, "0");
    Due.due("none", full.morning(), 0);
    Due.by("a MORNING alone is no DAY");
    Due.due("DAYS", x.count(2), 0);
    Due.due("SALES", x.count(3), 0);
  }

  private static void morningsByNumbers() {
    Due.by("SHOPS by numbers");
    LeftLacks x = Rows.row(0, 10, 10);
    for (int shop = 0; shop < 3; shop++) {
      x.set(shop, 3, 2);
    }
    Due.due("the second lacks, so the third fills", x.morning(), 4);
    Due.due("the second", x.shopIs(1, 9), 0);
    Due.due("the third", x.shopIs(2, 9), 2);
    Due.by("in a RING the first goes by what the last had ahead of the MORNING");
    LeftLacks ring = Rows.ring(10, 0);
    ring.set(0, 3, 2);
    ring.set(1, 3, 1);
    Due.due("the last has none yet", ring.morning(), 3);
    Due.due("the last has one", ring.morning(), 1);
    Due.by("GOODS by numbers");
    LeftLacks told = Rows.ring(60);
    Due.tellText(told, 0, "l+1");
    Due.due("each good is one more", told.morning(), 6);
    Due.due("and one more", told.morning(), 12);
  }
}
