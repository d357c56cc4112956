/** Promises 1 to 12. */
public final class GoodsAndShopsTest {
  public static void main(String[] args) {
    newObject();
    costs();
    rules();
    shops();
    mayByLaws();
    lawTwoAndMornings();
    kinds();
    sets();
    prices();
    fillings();
    customers();
    Due.end("GoodsAndShopsTest");
  }

  private static void newObject() {
    LeftLacks x = new LeftLacks();
    int[] due = {0, 0, 0, 0, 0, 0, 0, 0, 0, 0, 1, 5, 5, 5, 5, 5, 5};
    for (int what = 0; what < due.length; what++) {
      Due.due("1 count(" + what + ")", x.count(what), due[what]);
    }
    for (int k = 1; k <= 6; k++) {
      Due.due("1 told(" + k + ")", x.told(k), 0);
    }
    Due.due("1 shopIs(0, 0)", x.shopIs(0, 0), Due.BEYOND);
    Due.due("1 customerIs(0, 0)", x.customerIs(0, 0), Due.BEYOND);
    Due.due("1 body(0)", x.body(0), Due.NONE);
    Due.due("1 restore()", x.restore(), Due.NONE);
    Due.due("1 put(0, 0, 0)", x.put(0, 0, 0), Due.NONE);
    Due.due("1 untell(0)", x.untell(0), 0);
    Due.due("1 untell(1)", x.untell(1), 0);
  }

  private static void costs() {
    LeftLacks x = new LeftLacks();
    for (int good = 0; good < 6; good++) {
      Due.due("2 cost", x.cost(good, 99 - good), 5);
      Due.due("2 cost again", x.cost(good, good), 99 - good);
      Due.due("2 count", x.count(11 + good), good);
    }
    Due.due("2 cost(-1, 0)", x.cost(-1, 0), Due.BEYOND);
    Due.due("2 cost(6, 0)", x.cost(6, 0), Due.BEYOND);
    Due.due("2 cost(0, -1)", x.cost(0, -1), Due.BEYOND);
    Due.due("2 cost(0, 100)", x.cost(0, 100), Due.BEYOND);
    Due.due("2 cost stays", x.count(11), 0);
    Due.due("2 told(1)", x.told(1), 4);
  }

  private static void rules() {
    LeftLacks x = new LeftLacks();
    Due.due("3 rule(0, 1)", x.rule(0, 1), 0);
    Due.due("3 rule(0, 0)", x.rule(0, 0), 1);
    Due.due("3 rule(1, 2)", x.rule(1, 2), 0);
    Due.due("3 rule(1, 1)", x.rule(1, 1), 2);
    Due.due("3 ring", x.count(4), 0);
    Due.due("3 law", x.count(5), 1);
    Due.due("3 rule(0, 2)", x.rule(0, 2), Due.BEYOND);
    Due.due("3 rule(0, -1)", x.rule(0, -1), Due.BEYOND);
    Due.due("3 rule(1, 3)", x.rule(1, 3), Due.BEYOND);
    Due.due("3 rule(1, -1)", x.rule(1, -1), Due.BEYOND);
    Due.due("3 rule(2, 0)", x.rule(2, 0), Due.BEYOND);
    Due.due("3 rule(-1, 0)", x.rule(-1, 0), Due.BEYOND);
    Due.due("3 told(1)", x.told(1), 6);
  }

  private static void shops() {
    LeftLacks x = new LeftLacks();
    Due.due("4 shop(-1)", x.shop(-1), Due.BEYOND);
    Due.due("4 shop(70)", x.shop(70), Due.BEYOND);
    int[] kms = {0, 69, 15, 27, 38, 41};
    for (int i = 0; i < 6; i++) {
      Due.due("4 shop", x.shop(kms[i]), i);
      Due.due("4 KIND", x.shopIs(i, 0), kms[i] / 10);
      Due.due("4 m", x.shopIs(i, 1), kms[i] % 10);
      for (int what = 2; what <= 15; what++) {
        Due.due("5 at first " + what, x.shopIs(i, what), 0);
      }
    }
    Due.due("4 full", x.shop(50), Due.FULL);
    Due.due("4 beyond ahead of full", x.shop(70), Due.BEYOND);
    Due.due("4 count(0)", x.count(0), 6);
    Due.due("5 shopIs(6, 0)", x.shopIs(6, 0), Due.BEYOND);
    Due.due("5 shopIs(-1, 0)", x.shopIs(-1, 0), Due.BEYOND);
    Due.due("5 shopIs(0, 16)", x.shopIs(0, 16), Due.BEYOND);
    Due.due("5 shopIs(0, -1)", x.shopIs(0, -1), Due.BEYOND);
    Due.due("4 told(4)", x.told(4), 1);
    Due.due("5 told(1)", x.told(1), 7);
  }

  /** Three SHOPS, of which each has some of the GOODS of its bits. */
  private static LeftLacks stocked(int... goods) {
    LeftLacks x = new LeftLacks();
    for (int i = 0; i < goods.length; i++) {
      x.shop(0);
      for (int g = 0; g < 6; g++) {
        x.set(i, 9 + g, goods[i] >> g & 1);
      }
    }
    return x;
  }

  private static void mayByLaws() {
    LeftLacks x = stocked(0b000111, 0b011001, 0b111111);
    Due.due("5 law 0 row first", x.shopIs(0, 15), 0b000111);
    Due.due("5 law 0 row second", x.shopIs(1, 15), 0b011000);
    Due.due("5 law 0 row third", x.shopIs(2, 15), 0b100110);
    x.rule(1, 1);
    Due.due("5 law 1 row first", x.shopIs(0, 15), 0b000111);
    Due.due("5 law 1 row second", x.shopIs(1, 15), 0b011000);
    Due.due("5 law 1 row third", x.shopIs(2, 15), 0b100000);
    x.rule(0, 1);
    Due.due("5 law 1 ring first", x.shopIs(0, 15), 0);
    Due.due("5 law 1 ring second", x.shopIs(1, 15), 0);
    x.set(2, 10, 0);
    Due.due("5 law 1 ring first lacks", x.shopIs(0, 15), 0b000010);
    x.rule(1, 0);
    x.set(2, 9, 0);
    Due.due("5 law 0 ring first", x.shopIs(0, 15), 0b000011);
    LeftLacks two = stocked(0b000001, 0b000010);
    two.rule(0, 1);
    Due.due("5 ring of two, law 0", two.shopIs(0, 15), 1);
    two.rule(1, 1);
    Due.due("5 ring of two, law 1", two.shopIs(0, 15), 0);
    Due.due("5 ring of two, law 1", two.shopIs(1, 15), 0);
    two.rule(0, 0);
    Due.due("5 row of two, law 1", two.shopIs(1, 15), 2);
    LeftLacks alone = stocked(63);
    Due.due("5 alone in a row", alone.shopIs(0, 15), 63);
    alone.rule(0, 1);
    Due.due("5 alone in a ring", alone.shopIs(0, 15), 0);
  }

  private static void lawTwoAndMornings() {
    LeftLacks x = stocked(1, 1);
    x.rule(1, 2);
    Due.due("5 law 2 has some now", x.shopIs(1, 15), 0);
    x.set(0, 9, 0);
    Due.due("5 law 2 at first none had", x.shopIs(1, 15), 1);
    x.set(0, 3, 2);
    x.set(1, 3, 2);
    x.morning();
    x.set(0, 9, 0);
    Due.due("5 law 2 had some this morning", x.shopIs(1, 15), 0);
    x.shop(0);
    x.set(2, 9, 1);
    x.set(1, 9, 0);
    Due.due("5 law 2 third behind one that had", x.shopIs(2, 15), 0);
    x.shop(0);
    x.set(3, 9, 1);
    x.set(2, 9, 0);
    Due.due("5 law 2 behind one that came since", x.shopIs(3, 15), 1);
    x.rule(1, 0);
    x.set(1, 9, 1);
    Due.due("5 law 0 asks only now", x.shopIs(1, 15), 1);
  }

  private static void kinds() {
    LeftLacks x = new LeftLacks();
    x.shop(0);
    x.set(0, 3, 1);
    x.morning();
    int[] above = {0b0000001, 0b0000011, 0b0000101, 0b0001001, 0b0010011, 0b0100101, 0b1000001};
    for (int kind = 0; kind < 7; kind++) {
      x.set(0, 0, kind);
      for (int as = 0; as < 7; as++) {
        boolean fits = (above[kind] >> as & 1) == 1;
        Due.due("6 as(" + kind + " as " + as + ")", x.as(0, as), fits ? -5 : Due.KIND);
      }
    }
    Due.due("6 as(1, 0)", x.as(1, 0), Due.BEYOND);
    Due.due("6 as(-1, 0)", x.as(-1, 0), Due.BEYOND);
    Due.due("6 as(0, 7)", x.as(0, 7), Due.BEYOND);
    Due.due("6 as(0, -1)", x.as(0, -1), Due.BEYOND);
    Due.due("6 told(1)", x.told(1), 4);
    Due.due("6 told(5)", x.told(5), 49 - 15);
  }

  private static void sets() {
    LeftLacks x = new LeftLacks();
    x.shop(23);
    int[] most = {6, 9, -1, 9, 9, 9, 9, 9, 9, 99, 99, 99, 99, 99, 99, -1};
    int[] was = {2, 3, 0, 0, 0, 0, 0, 0, 0, 0, 0, 0, 0, 0, 0, 0};
    for (int what = 0; what < 16; what++) {
      if (most[what] < 0) {
        Due.due("7 set " + what, x.set(0, what, 0), Due.BEYOND);
      } else {
        Due.due("7 set " + what, x.set(0, what, most[what]), was[what]);
        Due.due("7 set beyond " + what, x.set(0, what, most[what] + 1), Due.BEYOND);
        Due.due("7 set below " + what, x.set(0, what, -1), Due.BEYOND);
        Due.due("7 stands " + what, x.shopIs(0, what), most[what]);
        Due.due("7 set 0 " + what, x.set(0, what, 0), most[what]);
      }
    }
    Due.due("7 set(0, 16, 0)", x.set(0, 16, 0), Due.BEYOND);
    Due.due("7 set(0, -1, 0)", x.set(0, -1, 0), Due.BEYOND);
    Due.due("7 set(1, 0, 0)", x.set(1, 0, 0), Due.BEYOND);
    Due.due("7 set(-1, 0, 0)", x.set(-1, 0, 0), Due.BEYOND);
    Due.due("7 told(1)", x.told(1), 2 + 28 + 4);
  }

  private static void prices() {
    LeftLacks x = new LeftLacks();
    x.shop(4);
    x.cost(2, 11);
    int[] due = {22, 22, 26, 33, 33, 26, 22};
    for (int kind = 0; kind < 7; kind++) {
      x.set(0, 0, kind);
      Due.due("8 price of kind " + kind, x.price(0, 2), due[kind]);
    }
    Due.due("8 price(0, 6)", x.price(0, 6), Due.BEYOND);
    Due.due("8 price(0, -1)", x.price(0, -1), Due.BEYOND);
    Due.due("8 price(1, 0)", x.price(1, 0), Due.BEYOND);
    Due.due("8 price(-1, 0)", x.price(-1, 0), Due.BEYOND);
  }

  private static void fillings() {
    LeftLacks x = new LeftLacks();
    x.shop(0);
    x.shop(4);
    x.set(1, 3, 7);
    int[] lacking = {7, 7, 3, 1, 11, 3, 7};
    int[] having = {7, 0, 3, 1, 0, 3, 7};
    for (int kind = 0; kind < 7; kind++) {
      x.set(1, 0, kind);
      x.set(0, 9, 0);
      Due.due("9 fills, left lacks, kind " + kind, x.fills(1, 0), lacking[kind]);
      x.set(0, 9, 1);
      Due.due("9 fills, left has, kind " + kind, x.fills(1, 0), having[kind]);
      Due.due("9 fills nothing, kind " + kind, x.fills(1, 1), 0);
    }
    x.set(0, 0, 1);
    x.set(0, 3, 9);
    Due.due("9 nobody lacks all", x.fills(0, 0), 9);
    x.rule(0, 1);
    x.set(1, 9, 2);
    Due.due("9 ring: the last has some", x.fills(0, 0), 0);
    Due.due("9 fills(0, 6)", x.fills(0, 6), Due.BEYOND);
    Due.due("9 fills(0, -1)", x.fills(0, -1), Due.BEYOND);
    Due.due("9 fills(2, 0)", x.fills(2, 0), Due.BEYOND);
    Due.due("9 fills(-1, 0)", x.fills(-1, 0), Due.BEYOND);
    LeftLacks alone = new LeftLacks();
    alone.shop(10);
    alone.rule(0, 1);
    alone.set(0, 3, 4);
    Due.due("9 alone in a ring", alone.fills(0, 0), 4);
    alone.set(0, 9, 1);
    Due.due("9 alone in a ring, itself has some", alone.fills(0, 0), 0);
  }

  private static void customers() {
    LeftLacks x = new LeftLacks();
    Due.due("12 leave() of none", x.leave(), Due.STATE);
    int[][] refused = {{64, 10, 0}, {-1, 10, 0}, {0, 9, 0}, {0, 12, 0}, {0, 19, 0}, {0, 122, 0},
        {0, 130, 0}, {0, -10, 0}, {0, 10, -1}, {0, 10, 1000}};
    for (int[] one : refused) {
      Due.due("10 refused", x.customer(one[0], one[1], one[2]), Due.BEYOND);
    }
    Due.due("10 customer(63, 121, 999)", x.customer(63, 121, 999), 0);
    Due.due("10 customer(0, 10, 0)", x.customer(0, 10, 0), 1);
    int[] first = {63, 12, 1, 999};
    int[] second = {0, 1, 0, 0};
    for (int what = 0; what < 4; what++) {
      Due.due("11 first " + what, x.customerIs(0, what), first[what]);
      Due.due("11 second " + what, x.customerIs(1, what), second[what]);
    }
    Due.due("11 customerIs(0, 4)", x.customerIs(0, 4), Due.BEYOND);
    Due.due("11 customerIs(0, -1)", x.customerIs(0, -1), Due.BEYOND);
    Due.due("11 customerIs(2, 0)", x.customerIs(2, 0), Due.BEYOND);
    Due.due("11 customerIs(-1, 0)", x.customerIs(-1, 0), Due.BEYOND);
    for (int i = 2; i < 10; i++) {
      Due.due("10 customer", x.customer(i, 20, i), i);
    }
    Due.due("10 full", x.customer(0, 10, 0), Due.FULL);
    Due.due("10 beyond ahead of full", x.customer(64, 10, 0), Due.BEYOND);
    Due.due("12 leave()", x.leave(), 9);
    Due.due("12 the last went", x.customerIs(9, 0), Due.BEYOND);
    Due.due("12 the others stay", x.customerIs(8, 0), 8);
    Due.due("12 one more comes", x.customer(33, 31, 7), 9);
    Due.due("12 the new one's", x.customerIs(9, 0), 33);
    Due.due("12 told(3)", x.told(3), 1);
    Due.due("10 told(4)", x.told(4), 1);
    Due.due("10 told(1)", x.told(1), 10 + 4 + 2);
  }
}
