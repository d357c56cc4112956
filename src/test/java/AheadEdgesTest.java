/** Term 3 and promises 21 to 27, 35, sentence by sentence: each one that names an edge. */
public final class AheadEdgesTest {
  public static void main(String[] args) {
    aheadByNought();
    aheadBeyondTheLastDay();
    aheadDrawsNothing();
    keeps();
    keepsOfSeveral();
    leastPurses();
    ranges();
    rangesOfSeveral();
    turns();
    turnsCarryAll();
    outs();
    outsAtEdges();
    joinedPurses();
    joinedKeepsAndStock();
    joinedRows();
    walks();
    walksByLaws();
    cames();
    cameOrder();
    Due.end("AheadEdgesTest");
  }

  private static void aheadByNought() {
    Due.by("AHEAD by n (0 .. 60) DAYS: by 0 as it is now");
    LeftLacks x = Rows.row(11, 22, 63);
    x.set(0, 3, 4);
    x.set(1, 5, 6);
    x.set(2, 14, 7);
    x.set(0, 9, 2);
    x.days(1);
    x.set(1, 10, 3);
    for (int shop = 0; shop < 3; shop++) {
      for (int what = 0; what <= 15; what++) {
        Due.due("then(0, " + shop + ", " + what + ")", x.then(0, shop, what), x.shopIs(shop, what));
      }
    }
    Due.by("AHEAD by n: of a SHOP what (0 .. 15) as in shopIs()");
    LeftLacks y = Rows.row(11, 22, 63);
    y.set(0, 3, 4);
    y.set(1, 5, 6);
    y.set(2, 3, 7);
    Rows.come(y, 4, 5, 30, 40);
    int[] ahead = new int[48];
    for (int i = 0; i < 48; i++) {
      ahead[i] = y.then(60, i / 16, i % 16);
    }
    y.days(60);
    for (int i = 0; i < 48; i++) {
      Due.due("AHEAD by 60, SHOP " + i / 16 + " " + i % 16, ahead[i], y.shopIs(i / 16, i % 16));
    }
  }

  private static void aheadBeyondTheLastDay() {
    Due.by("as they would go by (beyond 9999, too)");
    LeftLacks x = Rows.row(60, 0);
    x.cost(0, 0);
    x.set(0, 3, 1);
    Rows.come(x, 1, 1, 10, 999);
    Due.tellText(x, 1, "(d>9998)*(d-9990)");
    for (int i = 0; i < 166; i++) {
      x.days(60);
    }
    x.days(39);
    Due.due("DAYS", x.count(2), 9999);
    Due.due("no DAY more", x.days(1), Due.STATE);
    Due.due("PURSE now", x.then(0, 0, 2), 0);
    Due.due("AHEAD by 1", x.then(1, 0, 2), 9);
    Due.due("AHEAD by 3", x.then(3, 0, 2), 9 + 10 + 11);
    Due.due("KEEP", x.keep(0, 0, 20), 1);
    Due.due("RANGE", x.range(0, 5), 1);
    Due.due("TURN", x.turn(0, 20), 0);
    Due.due("JOINED", x.joined(0, 20), 0);
    x.tell(1);
    x.tell(1);
    Due.due("check()", x.check(), 0);
    Due.due("DAYS stay", x.count(2), 9999);
  }

  private static void aheadDrawsNothing() {
    Due.by("AHEAD goes by DAYS, not by LOOSE ones");
    for (int seed = 1; seed <= 8; seed++) {
      LeftLacks x = Rows.row(0);
      x.set(0, 3, 9);
      Rows.come(x, 9, 1, 10, 10);
      x.seed(seed);
      Due.due("all come", x.then(1, 0, 9), 0);
      Due.due("z stays", x.count(10), seed);
    }
  }

  private static void keeps() {
    Due.by("KEEP: KEEPS (0 .. 9) with which its PURSE AHEAD by n is greatest");
    for (int buyers = 0; buyers <= 10; buyers++) {
      LeftLacks x = Rows.row(0);
      x.set(0, 3, 4);
      Rows.come(x, buyers, 1, 10, 10);
      Due.due(buyers + " buyers", x.keep(0, 0, 1), Math.min(9, buyers));
      Due.due(buyers + " buyers for 20 DAYS", x.keep(0, 0, 20), Math.min(9, buyers));
      Due.due("KEEPS stay", x.shopIs(0, 3), 4);
    }
    Due.by("a PURSE that is less than nothing may be the greatest, too");
    LeftLacks poor = Rows.row(0);
    poor.set(0, 4, 9);
    Due.due("none", poor.keep(0, 0, 1), 0);
    Due.by("AHEAD by n, no further");
    LeftLacks told = Rows.row(60);
    told.set(0, 3, 5);
    Rows.come(told, 1, 1, 10, 999);
    Due.tellText(told, 0, "k*(g=0)");
    Due.tellText(told, 1, "(d=1)*999");
    Due.due("by 1", told.keep(0, 0, 1), 0);
    Due.due("by 2", told.keep(0, 0, 2), 1);
  }

  private static void keepsOfSeveral() {
    Due.by("of several the least");
    LeftLacks free = Rows.row(0);
    free.cost(0, 0);
    free.set(0, 3, 9);
    Rows.come(free, 3, 1, 10, 10);
    Due.due("at no COST, at no PRICE", free.keep(0, 0, 3), 0);
    LeftLacks dear = Rows.row(30);
    Rows.come(dear, 3, 1, 10, 999);
    Due.due("a DEAR one: all but 0 alike", dear.keep(0, 0, 3), 1);
    LeftLacks half = Rows.row(20);
    Rows.come(half, 2, 1, 10, 999);
    Due.due("a HALF: 4 and 5 alike", half.keep(0, 0, 1), 4);
    Due.by("a PURSE that is held is alike");
    LeftLacks held = Rows.row(60);
    held.cost(0, 0);
    Rows.come(held, 10, 1, 10, 999);
    Due.tellText(held, 1, "999");
    Due.tellText(held, 0, "99*(g=0)");
    held.days(60);
    held.days(60);
    Due.due("PURSE", held.shopIs(0, 2), 999999);
    held.untell(0);
    Due.due("all alike", held.keep(0, 0, 1), 0);
  }

  /** All PURSES are at their least, and stay there. */
  private static void leastPurses() {
    Due.by("PURSES held at -999999 are alike: of several the least");
    LeftLacks x = Rows.poorest(2);
    Due.due("PURSE", x.shopIs(1, 2), -999999);
    Due.due("KEEP", x.keep(1, 3, 2), 0);
    Due.due("RANGE", x.range(1, 2), 0);
    Due.due("TURN", x.turn(1, 2), 0);
  }

  private static void ranges() {
    Due.by("RANGE: the set of GOODS (others not kept at all)");
    LeftLacks x = Rows.row(0);
    for (int good = 0; good < 6; good++) {
      x.set(0, 3 + good, 1);
    }
    for (int wants = 0; wants < 64; wants++) {
      Rows.come(x, 1, wants, 10, 999);
      Due.due("wanted " + wants, x.range(0, 1 + wants % 5), wants);
      x.leave();
    }
    Due.due("KEEPS stay", x.shopIs(0, 3), 1);
    Due.by("GOODS of the set are kept as they are");
    LeftLacks many = Rows.row(0);
    many.set(0, 3, 9);
    many.set(0, 4, 1);
    Rows.come(many, 1, 3, 10, 999);
    Due.due("9 of which 1 is sold", many.range(0, 1), 2);
    Due.due("on DAYS enough", many.range(0, 5), 2);
    Rows.come(many, 9, 1, 10, 999);
    Due.due("9 of which 9 are sold", many.range(0, 1), 3);
  }

  private static void rangesOfSeveral() {
    Due.by("of several the fewest, then the least as bits");
    LeftLacks x = Rows.row(0);
    x.set(0, 3, 1);
    x.set(0, 8, 1);
    Due.due("nobody wants any", x.range(0, 1), 0);
    Rows.come(x, 1, 63, 10, 999);
    Due.due("those that aren't kept don't count", x.range(0, 1), 33);
    x.leave();
    Rows.come(x, 1, 63, 10, 10);
    Due.due("the least", x.range(0, 1), 1);
    LeftLacks two = Rows.row(0);
    for (int good = 0; good < 3; good++) {
      two.set(0, 3 + good, 1);
    }
    two.cost(2, 10);
    Rows.come(two, 1, 7, 10, 20);
    Due.due("one dear rather than two cheap ones", two.range(0, 1), 4);
    two.cost(2, 9);
    Due.due("two cheap ones", two.range(0, 1), 3);
    Due.by("a PURSE below nothing: of all the greatest");
    LeftLacks told = Rows.row(60);
    told.set(0, 3, 1);
    Due.tellText(told, 0, "(k=0)*(g=0)+k*2");
    Due.due("less is lost if it keeps none", told.range(0, 1), 0);
    Due.tellText(told, 0, "(k=0)*(g=0)");
    Due.due("less is lost if it keeps some", told.range(0, 1), 1);
  }

  private static void turns() {
    Due.by("TURN: by how many places (0 .. as many as there are SHOPS, less 1)");
    for (int shops = 1; shops <= 6; shops++) {
      LeftLacks x = Rows.row(new int[shops]);
      for (int i = 0; i < shops; i++) {
        x.set(i, 3, 1);
      }
      Rows.come(x, 1, 1, 10, 10);
      for (int shop = 0; shop < shops; shop++) {
        Due.due(shops + " SHOPS, to the front " + shop, x.turn(shop, 1), (shops - shop) % shops);
        Due.due(shops + " SHOPS by 20, to the front " + shop, x.turn(shop, 20), (shops - shop) % shops);
      }
      Due.due("SHOPS stay", x.count(0), shops);
    }
    Due.by("turned to the right, the last ones to the front");
    LeftLacks x = Rows.row(0, 0, 0, 0);
    x.set(1, 3, 1);
    Rows.come(x, 1, 1, 11, 10);
    Due.due("to the right end", x.turn(1, 1), 2);
    Due.by("of several the least");
    LeftLacks alike = Rows.row(0, 0, 0, 0);
    alike.set(2, 3, 1);
    Rows.come(alike, 1, 1, 20, 10);
    Due.due("first or second", alike.turn(2, 1), 2);
    Rows.come(alike, 1, 1, 30, 10);
    alike.leave();
    alike.leave();
    Due.due("nobody comes", alike.turn(2, 1), 0);
  }

  private static void turnsCarryAll() {
    Due.by("each SHOP with all it has");
    LeftLacks x = Rows.row(0, 30, 0);
    x.set(1, 3, 5);
    x.set(0, 4, 1);
    x.set(2, 4, 1);
    Rows.come(x, 1, 1, 10, 15);
    Due.due("KIND, KEEPS: the DEAR one to the front", x.turn(1, 3), 2);
    LeftLacks stock = Rows.row(10, 0);
    stock.rule(0, 1);
    stock.set(0, 3, 5);
    stock.set(1, 9, 1);
    // as it is the LACKER sees the last one's STOCK; turned it comes behind it, which is empty then
    Due.due("STOCK goes along", stock.turn(0, 1), 0);
    Rows.come(stock, 3, 1, 20, 10);
    Due.due("turned it fills, and sells three of five", stock.turn(0, 1), 1);
    LeftLacks purse = Rows.row(0, 0);
    purse.set(1, 9, 1);
    Rows.come(purse, 1, 2, 10, 10);
    purse.set(0, 10, 1);
    purse.visit(0);
    Due.due("PURSE goes along", purse.turn(0, 1), 0);
    Due.due("PURSE goes along", purse.turn(1, 1), 0);
  }

  private static void outs() {
    Due.by("OUT: behind VISITS of all CUSTOMERS now (no MORNING)");
    LeftLacks x = Rows.row(0, 0);
    x.set(0, 9, 1);
    x.set(1, 9, 1);
    x.set(0, 3, 9);
    x.set(1, 3, 9);
    Rows.come(x, 5, 1, 20, 10);
    // without it sells its own one; bought out it pays 10 and sells two
    Due.due("OUT", x.out(1, 0), 0);
    x.cost(0, 0);
    Due.due("at no PRICE", x.out(1, 0), 0);
    x.cost(0, 5);
    x.set(0, 0, 3);
    // nobody pays 15, so that without neither of them sells
    Due.due("at the other one's PRICE", x.out(1, 0), -15 + 20);
    x.set(0, 0, 0);
    x.set(1, 0, 3);
    x.customer(1, 20, 999);
    Due.due("by its own PRICE: only the last one pays 15", x.out(1, 0), -10);
    Due.by("OUT may be more or less than nothing");
    LeftLacks gain = Rows.row(0, 30);
    gain.set(0, 9, 9);
    Rows.come(gain, 10, 1, 20, 999);
    Due.due("gain", gain.out(1, 0), -90 + 9 * 15);
    gain.leave();
    for (int i = 0; i < 9; i++) {
      gain.leave();
    }
    Due.due("loss", gain.out(1, 0), -90);
    Due.by("(whatever KIND, m)");
    for (int kind = 0; kind <= 6; kind++) {
      LeftLacks any = Rows.row(0, 10 * kind);
      any.set(0, 14, 99);
      Due.due("KIND " + kind, any.out(1, 5), -990);
      Due.due("STOCK stays", any.shopIs(0, 14), 99);
    }
  }

  private static void outsAtEdges() {
    Due.by("STATE: nobody else is TO THE LEFT, or that one has none of it");
    LeftLacks x = Rows.row(0, 0);
    x.set(0, 9, 1);
    x.set(1, 9, 1);
    Due.due("nobody", x.out(0, 0), Due.STATE);
    Due.due("one", x.out(1, 0), -10);
    Due.due("none", x.out(1, 1), Due.STATE);
    x.rule(0, 1);
    Due.due("in a RING the last", x.out(0, 0), -10);
    x.set(1, 9, 0);
    Due.due("in a RING the last has none", x.out(0, 0), Due.STATE);
    LeftLacks alone = Rows.ring(0);
    alone.set(0, 9, 1);
    Due.due("itself", alone.out(0, 0), Due.STATE);
    Due.due("told(3)", x.told(3) + alone.told(3), 4);
    Due.by("BEYOND ahead of STATE");
    Due.due("no such GOOD, nobody", alone.out(0, 6), Due.BEYOND);
    Due.due("no such SHOP", alone.out(1, 0), Due.BEYOND);
    Due.by("BOUGHT OUT: 99 at most, what is more is thrown away");
    LeftLacks most = Rows.row(60, 60);
    most.set(0, 9, 99);
    most.set(1, 9, 99);
    Due.tellText(most, 1, "s*(c=5)");
    Rows.come(most, 1, 1, 20, 999);
    // 99 are bought at 99 each; then one is sold at 99, as STOCK is 99, where without none is
    Due.due("OUT", most.out(1, 0), -99 * 99 + 99);
    most.set(1, 9, 1);
    most.set(0, 9, 97);
    Due.due("98 stand together", most.out(1, 0), -97 * 97 + 98);
    Due.by("PURSES are held in OUT, too");
    LeftLacks poor = Rows.poorest(2);
    poor.set(0, 9, 5);
    Due.due("PURSE", poor.shopIs(1, 2), -999999);
    Due.due("no less", poor.out(1, 0), 0);
  }

  private static void joinedPurses() {
    Due.by("JOINED: how much more both PURSES would be together");
    LeftLacks x = Rows.row(0, 0, 0);
    Due.due("nothing there", x.joined(0, 1), 0);
    x.set(1, 3, 3);
    Rows.come(x, 1, 1, 10, 10);
    Due.due("the former one sells it", x.joined(0, 1), 10);
    Due.due("by 20", x.joined(0, 20), 20 * 10 - 19 * 5);
    Due.by("the former one began with both PURSES");
    x.days(1);
    Due.due("PURSE of the second", x.shopIs(1, 2), -15);
    x.set(1, 3, 0);
    x.leave();
    Due.due("they are there still", x.joined(0, 1), 0);
    Due.due("they are there still", x.joined(1, 1), 0);
    Due.by("BEYOND: also the last SHOP");
    Due.due("the last", x.joined(2, 1), Due.BEYOND);
    Due.due("alone", Rows.row(0).joined(0, 1), Due.BEYOND);
    Due.due("alone in a RING", Rows.ring(0).joined(0, 1), Due.BEYOND);
    Due.due("the last in a RING", Rows.ring(0, 0).joined(1, 1), Due.BEYOND);
    Due.due("nobody", new LeftLacks().joined(0, 1), Due.BEYOND);
    Due.due("the next one is none", x.joined(-1, 1), Due.BEYOND);
    Due.due("the greatest number", x.joined(Integer.MAX_VALUE, 1), Due.BEYOND);
    Due.by("a PURSE is held, the joined one's, too");
    LeftLacks poor = Rows.poorest(2);
    Due.due("PURSES", poor.count(6), -2 * 999999);
    Due.due("one of them is gone", poor.joined(0, 1), 999999);
  }

  private static void joinedKeepsAndStock() {
    Due.by("KEEPS of both together (9 at most)");
    for (int keeps = 0; keeps <= 9; keeps++) {
      LeftLacks x = Rows.row(0, 0);
      x.set(0, 3, 5);
      x.set(1, 3, keeps);
      int together = Math.min(9, 5 + keeps);
      Due.due("5 and " + keeps, x.joined(0, 1), -5 * together + 5 * (5 + keeps));
    }
    Due.by("STOCK of both together");
    LeftLacks stock = Rows.row(0, 0);
    stock.set(0, 3, 5);
    stock.set(0, 9, 2);
    stock.set(1, 9, 2);
    // apart three are filled and two thrown away
    Due.due("four are there", stock.joined(0, 1), 10);
    Due.by("STOCK of both together (99 at most)");
    Due.due("60 and 60 aren't more", joinedBarred("(g=0)*(l>99)", 60, 60), 0);
    Due.due("99 and 99 aren't more", joinedBarred("(g=0)*(l>99)", 99, 99), 0);
    Due.due("49 and 49 are less", joinedBarred("(g=0)*(l<99)", 49, 49), 0);
    Due.due("49 and 50 aren't less", joinedBarred("(g=0)*(l<99)", 49, 50), 10);
    Due.due("60 and 60 aren't less", joinedBarred("(g=0)*(l<99)", 60, 60), 10);
    Due.by("and its own KIND");
    LeftLacks kinds = Rows.row(0, 30);
    kinds.set(1, 3, 1);
    Rows.come(kinds, 1, 1, 20, 999);
    Due.due("as a SHOP", kinds.joined(0, 1), 10 - 15);
    LeftLacks m = Rows.row(21, 29);
    m.set(1, 3, 2);
    Rows.come(m, 1, 1, 20, 999);
    Due.due("m as it was", m.joined(0, 1), 11 - 19);
  }

  /**
   * In a RING the first SHOP fills one of GOOD 0 by a TEXT that goes by l, STOCK of the last one; then
   * the second, or what it and the last are joined to, can't sell its own to the one who wants it.
   */
  private static int joinedBarred(String text, int second, int third) {
    LeftLacks x = Rows.ring(60, 0, 0);
    x.set(1, 3, 1);
    x.set(1, 9, second);
    x.set(2, 9, third);
    Due.tellText(x, 0, text);
    Rows.come(x, 1, 1, 31, 10);
    return x.joined(1, 1);
  }

  private static void joinedRows() {
    Due.by("if the latter one were gone: those to its right come nearer");
    LeftLacks x = Rows.row(0, 0, 0, 0);
    x.set(1, 3, 1);
    x.set(3, 3, 1);
    Rows.come(x, 2, 1, 40, 10);
    Due.due("apart each sells one", x.joined(1, 1), 0);
    x.set(2, 4, 1);
    Due.due("still behind one that sold out", x.joined(2, 1), 0);
    Due.by("two of a RING joined: one alone, TO THE LEFT of itself");
    LeftLacks two = Rows.ring(0, 0);
    two.set(0, 3, 1);
    Rows.come(two, 1, 1, 20, 10);
    Due.due("it sells no more", two.joined(0, 1), -10);
    two.rule(0, 0);
    Due.due("in a row it does", two.joined(0, 1), 0);
    Due.due("SHOPS stay", two.count(0), 2);
  }

  private static void walks() {
    Due.by("WALK: 0, if it WANTS nothing");
    LeftLacks x = new LeftLacks();
    Rows.come(x, 1, 0, 10, 0);
    Rows.come(x, 1, 0, 11, 0);
    Due.due("no SHOPS", x.walk(0), 0);
    x.shop(0);
    Due.due("one SHOP", x.walk(0), 0);
    Due.due("from the right", x.walk(1), 0);
    Due.by("from its end on (STEPS, COIN don't matter): the fewest");
    for (int wants = 1; wants < 64; wants++) {
      LeftLacks six = Rows.row(0, 0, 0, 0, 0, 0);
      for (int i = 0; i < 6; i++) {
        six.set(i, 9 + i, 1);
      }
      Rows.come(six, 1, wants, 10, 0);
      Rows.come(six, 1, wants, 11, 0);
      Due.due("from the left " + wants, six.walk(0), 32 - Integer.numberOfLeadingZeros(wants));
      Due.due("from the right " + wants, six.walk(1), 6 - Integer.numberOfTrailingZeros(wants));
      six.rule(0, 1);
      Due.due("in a RING from the left " + wants, six.walk(0), 32 - Integer.numberOfLeadingZeros(wants));
      Due.due("in a RING from the right " + wants, six.walk(1), 6 - Integer.numberOfTrailingZeros(wants));
    }
    Due.by("NONE: not all is found");
    LeftLacks none = new LeftLacks();
    Rows.come(none, 1, 1, 120, 999);
    Rows.come(none, 1, 3, 121, 999);
    Due.due("no SHOPS", none.walk(0), Due.NONE);
    none.shop(0);
    Due.due("none has it", none.walk(0), Due.NONE);
    none.set(0, 9, 1);
    Due.due("one has it", none.walk(0), 1);
    Due.due("one has one of two", none.walk(1), Due.NONE);
    Due.due("told(2)", none.told(2), 3);
    Due.by("BEYOND ahead of NONE");
    Due.due("walk(2)", none.walk(2), Due.BEYOND);
    Due.due("walk(-1)", none.walk(-1), Due.BEYOND);
  }

  private static void walksByLaws() {
    Due.by("by what each MAY sell now (nothing being sold)");
    LeftLacks x = Rows.row(0, 0, 0);
    x.set(0, 9, 1);
    x.set(1, 9, 1);
    x.set(1, 10, 1);
    x.set(2, 10, 1);
    Rows.come(x, 1, 3, 10, 0);
    Rows.come(x, 1, 3, 11, 0);
    Due.due("from the left", x.walk(0), 2);
    Due.due("from the right", x.walk(1), 3);
    x.rule(0, 1);
    x.set(2, 9, 1);
    Due.due("in a RING nobody may sell it", x.walk(0), Due.NONE);
    x.set(2, 9, 0);
    Due.due("in a RING", x.walk(0), 2);
    Due.due("STOCK stays", x.shopIs(0, 9), 1);
  }

  private static void cames() {
    Due.by("CAME: how many sets, the least, SURELY (in all), MAYBE (in any)");
    LeftLacks x = Rows.row(0, 0);
    x.set(0, 9, 3);
    Due.write(x, 0, 8, 3, 0, 0, 0, 0, 0);
    came(x, 0, 1, 0, 0, 0);
    Rows.come(x, 3, 1, 10, 10);
    came(x, 0, 1, 0, 0, 0);
    Due.write(x, 0, 8, 2, 0, 0, 0, 0, 0);
    came(x, 0, 3, 1, 0, 7);
    Due.write(x, 0, 8, 0, 0, 0, 0, 0, 0);
    came(x, 0, 1, 7, 7, 7);
    Due.by("NONE: none");
    Due.write(x, 0, 8, 4, 0, 0, 0, 0, 0);
    came(x, 0, 0, Due.NONE, Due.NONE, 0);
    Due.write(x, 0, 8, -1, 0, 0, 0, 0, 0);
    came(x, 0, 0, Due.NONE, Due.NONE, 0);
    Due.write(x, 0, 32, 256, 0, 0, 0, 0, 0);
    came(x, 0, 0, Due.NONE, Due.NONE, 0);
    Due.by("GOOD by GOOD the first 6 numbers of a SHEET");
    for (int good = 0; good < 6; good++) {
      Due.write(x, 0, 16, 3, 0, 0, 0, 0, 0, 9, 9);
      Due.due("just so", x.came(0, 0, 0), 1);
      x.put(0, good, 7);
      Due.due("GOOD " + good + " isn't so", x.came(0, 0, 0), 0);
    }
    Due.by("of a SHOP: of the others nothing is asked");
    Due.write(x, 0, 8, 0, 0, 0, 0, 0, 0);
    Due.due("all sets", x.came(0, 1, 0), 8);
    Due.by("NONE: it is missing, or has less than 6 numbers");
    Due.due("missing", x.came(1, 0, 0), Due.NONE);
    for (int n = 0; n <= 5; n++) {
      x.sheet(1, 8, n);
      Due.due(n + " numbers", x.came(1, 1, 0), Due.NONE);
    }
    x.sheet(1, 8, 6);
    Due.due("6 numbers", x.came(1, 1, 0), 8);
  }

  private static void came(LeftLacks x, int shop, int sets, int least, int surely, int maybe) {
    Due.due("sets", x.came(0, shop, 0), sets);
    Due.due("least", x.came(0, shop, 1), least);
    Due.due("SURELY", x.came(0, shop, 2), surely);
    Due.due("MAYBE", x.came(0, shop, 3), maybe);
  }

  private static void cameOrder() {
    Due.by("VISITING now by numbers and alone");
    LeftLacks x = Rows.row(0, 0);
    x.set(0, 9, 1);
    x.set(1, 9, 1);
    Rows.come(x, 1, 1, 11, 10);
    Rows.come(x, 1, 1, 10, 10);
    // the first finds nothing it may buy, as long as the second hasn't come
    Due.write(x, 0, 8, 1, 0, 0, 0, 0, 0);
    came(x, 1, 4, 0, 0, 3);
    Due.write(x, 0, 8, 0, 0, 0, 0, 0, 0);
    came(x, 1, 0, Due.NONE, Due.NONE, 0);
    x.leave();
    x.leave();
    Rows.come(x, 1, 1, 10, 10);
    Rows.come(x, 1, 1, 11, 10);
    came(x, 1, 1, 3, 3, 3);
    Due.by("one set's VISITS leave no trace in another's");
    came(x, 1, 1, 3, 3, 3);
    Due.due("STOCK stays", x.shopIs(1, 9), 1);
    Due.due("PURSE stays", x.shopIs(1, 2), 0);
    Due.by("by PRICES as they are when one comes");
    LeftLacks told = Rows.row(60);
    told.set(0, 9, 5);
    Due.tellText(told, 1, "s*10");
    Rows.come(told, 1, 1, 10, 40);
    Rows.come(told, 1, 1, 10, 50);
    Rows.come(told, 1, 1, 10, 40);
    Due.write(told, 0, 8, 3, 0, 0, 0, 0, 0);
    came(told, 0, 2, 6, 6, 7);
  }
}
