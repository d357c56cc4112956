/** Promises 21 to 27. */
public final class AheadTest {
  public static void main(String[] args) {
    thens();
    keeps();
    ranges();
    turns();
    outs();
    outsByLaws();
    joins();
    walks();
    fullHouse();
    nothingChanges();
    Due.end("AheadTest");
  }

  /** One SHOP that keeps 5 of GOOD 0, and so many customers for it, at 10 each. */
  private static LeftLacks oneShop(int customers) {
    LeftLacks x = new LeftLacks();
    x.shop(0);
    x.set(0, 3, 5);
    for (int i = 0; i < customers; i++) {
      x.customer(1, 10, 10);
    }
    return x;
  }

  private static void thens() {
    LeftLacks x = oneShop(2);
    Due.due("21 now", x.then(0, 0, 9), 0);
    Due.due("21 now", x.then(0, 0, 15), 0);
    Due.due("21 stock", x.then(1, 0, 9), 3);
    Due.due("21 purse", x.then(1, 0, 2), -25 + 20);
    Due.due("21 purse", x.then(3, 0, 2), -25 + 20 + 2 * 10);
    Due.due("21 purse", x.then(60, 0, 2), -5 + 59 * 10);
    Due.due("21 may", x.then(1, 0, 15), 1);
    Due.due("21 kind", x.then(2, 0, 0), 0);
    Due.due("21 keeps", x.then(2, 0, 3), 5);
    Due.due("21 n -1", x.then(-1, 0, 0), Due.BEYOND);
    Due.due("21 n 61", x.then(61, 0, 0), Due.BEYOND);
    Due.due("21 no such shop", x.then(1, 1, 0), Due.BEYOND);
    Due.due("21 no such shop", x.then(1, -1, 0), Due.BEYOND);
    Due.due("21 what 16", x.then(1, 0, 16), Due.BEYOND);
    Due.due("21 what -1", x.then(1, 0, -1), Due.BEYOND);
    Due.due("21 told(1)", x.told(1), 6);
  }

  private static void keeps() {
    LeftLacks x = oneShop(2);
    Due.due("22 as many as are sold", x.keep(0, 0, 1), 2);
    Due.due("22 as many as are sold", x.keep(0, 0, 20), 2);
    Due.due("22 nobody wants it", x.keep(0, 1, 3), 0);
    x.cost(0, 0);
    Due.due("22 of several the least", x.keep(0, 0, 2), 0);
    x.cost(0, 5);
    for (int i = 0; i < 8; i++) {
      x.customer(1, 10, 10);
    }
    Due.due("22 at most 9", x.keep(0, 0, 1), 9);
    Due.due("22 n 0", x.keep(0, 0, 0), Due.BEYOND);
    Due.due("22 n 21", x.keep(0, 0, 21), Due.BEYOND);
    Due.due("22 no such shop", x.keep(1, 0, 1), Due.BEYOND);
    Due.due("22 no such shop", x.keep(-1, 0, 1), Due.BEYOND);
    Due.due("22 no such good", x.keep(0, 6, 1), Due.BEYOND);
    Due.due("22 no such good", x.keep(0, -1, 1), Due.BEYOND);
    Due.due("22 told(1)", x.told(1), 6);
  }

  private static void ranges() {
    LeftLacks x = new LeftLacks();
    x.shop(0);
    x.set(0, 3, 1);
    x.set(0, 4, 1);
    x.set(0, 6, 1);
    x.set(0, 8, 1);
    Due.due("23 nothing is wanted", x.range(0, 2), 0);
    x.customer(0b101001, 10, 999);
    Due.due("23 what is wanted", x.range(0, 2), 0b101001);
    x.cost(5, 0);
    Due.due("23 of several the fewest", x.range(0, 2), 0b001001);
    x.leave();
    x.cost(3, 5);
    x.cost(5, 5);
    x.customer(0b101000, 10, 10);
    Due.due("23 then the least", x.range(0, 1), 0b001000);
    x.cost(3, 4);
    Due.due("23 the dearer one", x.range(0, 1), 0b100000);
    LeftLacks all = new LeftLacks();
    all.shop(0);
    for (int g = 0; g < 6; g++) {
      all.set(0, 3 + g, 1);
    }
    all.customer(63, 10, 999);
    Due.due("23 all", all.range(0, 1), 63);
    Due.due("23 n 0", x.range(0, 0), Due.BEYOND);
    Due.due("23 n 6", x.range(0, 6), Due.BEYOND);
    Due.due("23 n 5", x.range(0, 5), 0b100000);
    Due.due("23 no such shop", x.range(1, 1), Due.BEYOND);
    Due.due("23 no such shop", x.range(-1, 1), Due.BEYOND);
    Due.due("23 told(1)", x.told(1), 4);
  }

  private static void turns() {
    LeftLacks x = new LeftLacks();
    for (int i = 0; i < 3; i++) {
      x.shop(0);
      x.set(i, 3, 1);
    }
    x.customer(1, 30, 999);
    Due.due("24 the first sells", x.turn(0, 2), 0);
    Due.due("24 the second is to be the first", x.turn(1, 2), 2);
    Due.due("24 the third is to be the first", x.turn(2, 2), 1);
    x.rule(0, 1);
    Due.due("24 in a ring nobody sells, of several the least", x.turn(2, 2), 0);
    x.leave();
    x.rule(0, 0);
    Due.due("24 without customers", x.turn(2, 2), 0);
    Due.due("24 n 20", x.turn(2, 20), 0);
    Due.due("24 n 1", x.turn(2, 1), 0);
    unlikeShops();
    Due.due("24 n 0", x.turn(0, 0), Due.BEYOND);
    Due.due("24 n 21", x.turn(0, 21), Due.BEYOND);
    Due.due("24 no such shop", x.turn(3, 1), Due.BEYOND);
    Due.due("24 no such shop", x.turn(-1, 1), Due.BEYOND);
    Due.due("24 told(1)", x.told(1), 4);
  }

  /** SHOPS that are unlike: who stands to the left of whom, and where customers come in, matters. */
  private static void unlikeShops() {
    LeftLacks x = new LeftLacks();
    x.rule(0, 1);
    x.shop(0);
    x.shop(0);
    x.shop(0);
    x.set(0, 3, 2);
    x.set(2, 3, 2);
    // in the ring SHOP 2 stands to the left of SHOP 0, wherever the row begins
    x.customer(1, 10, 10);
    Due.due("24 where the customer comes in", x.turn(2, 3), 1);
    Due.due("24 the first never sells", x.turn(0, 3), 0);
    x.rule(0, 0);
    // one step from the right: turned by 2 SHOP 0 is the last one, but behind SHOP 2, which has it
    x.leave();
    x.customer(1, 11, 10);
    Due.due("24 at the right end it may not", x.turn(0, 3), 0);
    Due.due("24 at the right end", x.turn(2, 3), 0);
    x.set(1, 4, 1);
    x.leave();
    x.customer(2, 11, 10);
    Due.due("24 the second to the right end", x.turn(1, 3), 1);
    Due.due("24 what it has goes with it", x.turn(0, 3), 0);
    LeftLacks poor = new LeftLacks();
    poor.shop(0);
    poor.shop(0);
    poor.set(1, 3, 9);
    poor.customer(1, 10, 10);
    Due.due("24 a purse that is less below 0", poor.turn(1, 1), 1);
    // turned it sells one a day, and not turned it fills but once
    Due.due("24 every customer comes", poor.turn(1, 20), 1);
    Due.due("24 no draws", poor.count(10), 1);
  }

  private static void outs() {
    LeftLacks x = new LeftLacks();
    x.shop(0);
    x.shop(30);
    x.set(0, 9, 2);
    x.set(1, 9, 1);
    x.customer(1, 20, 999);
    x.customer(1, 20, 999);
    x.customer(1, 20, 999);
    // as it is the left one sells two and then this one its own: 15; bought out it pays 20, sells three
    Due.due("25 out(1, 0)", x.out(1, 0), -20 + 45 - 15);
    x.set(1, 9, 0);
    Due.due("25 it needs none itself", x.out(1, 0), -20 + 30);
    Due.due("25 nobody to the left", x.out(0, 0), Due.STATE);
    Due.due("25 the left one has none", x.out(1, 1), Due.STATE);
    x.rule(0, 1);
    Due.due("25 ring: the last has none", x.out(0, 0), Due.STATE);
    x.set(1, 10, 1);
    Due.due("25 ring: nobody wants it", x.out(0, 1), -15);
    x.set(0, 9, 99);
    x.set(1, 9, 99);
    Due.due("25 what is more is thrown away", x.out(1, 0), -990 + 45);
    Due.due("25 no such good", x.out(1, 6), Due.BEYOND);
    Due.due("25 no such good", x.out(1, -1), Due.BEYOND);
    Due.due("25 no such shop", x.out(2, 0), Due.BEYOND);
    Due.due("25 no such shop", x.out(-1, 0), Due.BEYOND);
    Due.due("25 told(1)", x.told(1), 4);
    Due.due("25 told(3)", x.told(3), 3);
    LeftLacks alone = new LeftLacks();
    alone.shop(0);
    alone.set(0, 9, 3);
    alone.rule(0, 1);
    Due.due("25 alone in a ring", alone.out(0, 0), Due.STATE);
    alone.rule(0, 0);
    Due.due("25 alone in a row", alone.out(0, 0), Due.STATE);
  }

  private static void outsByLaws() {
    LeftLacks x = new LeftLacks();
    x.shop(0);
    x.shop(0);
    x.set(0, 3, 1);
    x.morning();
    x.customer(1, 20, 999);
    Due.due("25 law 0", x.out(1, 0), 0);
    x.rule(1, 2);
    Due.due("25 law 2: it had some this morning", x.out(1, 0), -10);
  }

  private static void joins() {
    LeftLacks x = new LeftLacks();
    x.shop(0);
    x.shop(0);
    x.shop(30);
    x.set(0, 3, 1);
    x.set(1, 3, 1);
    x.customer(1, 30, 999);
    x.customer(1, 30, 999);
    // apart: each fills one and sells one, as the left one is out of it by then
    Due.due("26 together just so much", x.joined(0, 1), 0);
    x.set(2, 4, 1);
    x.customer(2, 30, 999);
    // apart: the dear one sells for 15; joined it is a plain one
    Due.due("26 the former one's kind", x.joined(1, 1), -5);
    x.set(0, 3, 6);
    x.set(1, 3, 5);
    // apart 11 are filled and 2 sold; together 9 are filled and 2 sold
    Due.due("26 keeps 9 at most", x.joined(0, 1), 10);
    x.set(0, 9, 60);
    x.set(1, 9, 60);
    Due.due("26 stock of both", x.joined(0, 1), 0);
    x.days(1);
    // apart two more are filled; together there are 4 and 5, as many as are kept
    Due.due("26 both purses", x.joined(0, 1), 10);
    joinsInTheMiddle();
    Due.due("26 the last", x.joined(2, 1), Due.BEYOND);
    x.rule(0, 1);
    Due.due("26 the last in a ring", x.joined(2, 1), Due.BEYOND);
    Due.due("26 no such shop", x.joined(3, 1), Due.BEYOND);
    Due.due("26 no such shop", x.joined(-1, 1), Due.BEYOND);
    Due.due("26 n 0", x.joined(0, 0), Due.BEYOND);
    Due.due("26 n 21", x.joined(0, 21), Due.BEYOND);
    Due.due("26 greatest number", x.joined(Integer.MAX_VALUE, 1), Due.BEYOND);
    Due.due("26 told(1)", x.told(1), 7);
  }

  /** Those to the right come nearer, with all they have. */
  private static void joinsInTheMiddle() {
    LeftLacks x = new LeftLacks();
    for (int i = 0; i < 4; i++) {
      x.shop(0);
    }
    x.set(2, 3, 1);
    x.set(3, 4, 1);
    x.days(2);
    // SHOP 3 is three steps off when two are joined, but that is its own gain
    x.customer(2, 30, 999);
    Due.due("26 not of these two", x.joined(0, 1), 0);
    Due.due("26 nor of these", x.joined(1, 1), 0);
    Due.due("26 nearer by one", x.joined(2, 3), 3 * 10 - 2 * 5);
    x.set(1, 4, 1);
    x.leave();
    x.customer(1, 20, 999);
    // SHOP 2 comes into reach if 0 and 1 are joined; joined with 1 it is so as well
    Due.due("26 the third one's gain", x.joined(0, 2), 0);
    Due.due("26 nearer by one", x.joined(1, 2), 2 * 10 - 5);
    x.set(3, 3, 1);
    Due.due("26 keeps of both", x.joined(2, 2), 0);
    LeftLacks last = new LeftLacks();
    last.shop(0);
    last.shop(0);
    last.shop(0);
    last.set(1, 3, 1);
    last.customer(1, 11, 10);
    Due.due("26 the latter one is gone", last.joined(1, 1), 10);
    LeftLacks lacker = new LeftLacks();
    lacker.shop(10);
    lacker.shop(0);
    lacker.shop(0);
    lacker.rule(0, 1);
    lacker.set(0, 3, 1);
    lacker.set(2, 3, 1);
    // in the ring the lacker fills nothing but on the first day; with the third gone it would
    Due.due("26 the last one comes nearer", lacker.joined(1, 3), 0);
    lacker.set(2, 9, 1);
    Due.due("26 the last one's stock comes with it", lacker.joined(0, 1), 0);
    lacker.set(2, 9, 0);
    Due.due("26 the first fills once", lacker.joined(0, 1), 0);
  }

  private static void walks() {
    LeftLacks x = new LeftLacks();
    x.customer(0, 10, 0);
    x.customer(1, 10, 0);
    Due.due("27 wants nothing, no shops", x.walk(0), 0);
    Due.due("27 no shops", x.walk(1), Due.NONE);
    for (int i = 0; i < 4; i++) {
      x.shop(0);
    }
    x.set(0, 9, 1);
    x.set(1, 9, 1);
    x.set(2, 10, 1);
    x.set(3, 9, 1);
    x.customer(3, 10, 0);
    x.customer(3, 11, 0);
    x.customer(1, 11, 0);
    x.customer(4, 10, 0);
    x.customer(0, 11, 0);
    int[] due = {0, 1, 3, 2, 1, Due.NONE, 0};
    for (int i = 0; i < due.length; i++) {
      Due.due("27 walk(" + i + ")", x.walk(i), due[i]);
    }
    x.set(3, 9, 0);
    Due.due("27 only what it may sell", x.walk(4), 4);
    x.set(3, 9, 1);
    x.rule(0, 1);
    Due.due("27 in a ring the first may not", x.walk(1), 4);
    Due.due("27 no such customer", x.walk(7), Due.BEYOND);
    Due.due("27 no such customer", x.walk(-1), Due.BEYOND);
    Due.due("27 told(2)", x.told(2), 2);
    Due.due("27 told(1)", x.told(1), 2);
  }

  /** As many shops and customers as there may be; each shop keeps one of its own good. */
  private static void fullHouse() {
    LeftLacks x = new LeftLacks();
    for (int i = 0; i < 6; i++) {
      x.shop(0);
      x.set(i, 3 + i, 1);
    }
    for (int i = 0; i < 10; i++) {
      x.customer(63, 120 + i % 2, 999);
    }
    for (int ring = 0; ring <= 1; ring++) {
      x.rule(0, ring);
      Due.due("full: morning()", x.morning(), 6);
      Due.due("full: walk(0)", x.walk(0), 6);
      Due.due("full: out", x.out(1, 0), 0);
      Due.due("full: days(1)", x.days(1), 6);
      Due.due("full: purses", x.count(6), 6 * 5 * (ring + 1));
      Due.due("full: then", x.then(60, 5, 2), 5 * 61 + 5 * ring);
      Due.due("full: keep", x.keep(5, 5, 2), 9);
      Due.due("full: range", x.range(5, 2), 32);
      Due.due("full: turn", x.turn(5, 2), 0);
      Due.due("full: joined", x.joined(4, 2), 0);
      Due.write(x, 0, 8, 0, 0, 0, 0, 0, 0);
      Due.due("full: came", x.came(0, 5, 0), 1024);
      Due.due("full: visit", x.visit(9), 0);
      Due.due("full: image", x.image(), 1 + ring);
      Due.due("full: restore", x.restore(), 1 + ring);
    }
  }

  private static void nothingChanges() {
    LeftLacks x = oneShop(3);
    x.shop(51);
    x.set(1, 3, 4);
    x.loose(2);
    int[] before = new int[17];
    for (int i = 0; i < 17; i++) {
      before[i] = x.count(i);
    }
    int[] shops = new int[32];
    for (int i = 0; i < 32; i++) {
      shops[i] = x.shopIs(i / 16, i % 16);
    }
    x.then(9, 0, 2);
    x.keep(1, 0, 3);
    x.range(0, 3);
    x.turn(1, 3);
    x.out(1, 0);
    x.joined(0, 3);
    x.walk(0);
    Due.write(x, 0, 16, 2, 0, 0, 0, 0, 0);
    x.came(0, 0, 0);
    x.judge(0);
    x.tell(1);
    x.tell(1);
    x.check();
    for (int i = 0; i < 17; i++) {
      Due.due("3 count(" + i + ") stays", x.count(i), before[i]);
    }
    for (int i = 0; i < 32; i++) {
      Due.due("3 shopIs stays " + i, x.shopIs(i / 16, i % 16), shops[i]);
    }
  }
}
