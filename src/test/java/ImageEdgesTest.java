/** Promises 36 to 41, sentence by sentence: each one that names an edge. */
public final class ImageEdgesTest {
  private static final int MOST = Integer.MAX_VALUE;
  private static final int LEAST = Integer.MIN_VALUE;

  public static void main(String[] args) {
    howOften();
    noImage();
    imageOfNothing();
    imageOfAll();
    notKept();
    theImageStays();
    tells();
    checks();
    checkForgets();
    counts();
    purses();
    toldEach();
    toldOthers();
    Due.end("ImageEdgesTest");
  }

  private static void howOften() {
    Due.by("image: how often that was done");
    LeftLacks x = new LeftLacks();
    for (int i = 1; i <= 400; i++) {
      Due.due("image()", x.image(), i);
    }
    x.restore();
    Due.due("restore() doesn't take it back", x.image(), 401);
  }

  private static void noImage() {
    Due.by("restore: NONE: there is none");
    LeftLacks x = new LeftLacks();
    x.shop(0);
    x.days(3);
    Due.due("restore()", x.restore(), Due.NONE);
    Due.due("SHOPS", x.count(0), 1);
    Due.due("DAYS", x.count(2), 3);
    Due.due("told(2)", x.told(2), 1);
    x.image();
    Due.due("restore() then", x.restore(), 3);
    Due.due("told(2) stays", x.told(2), 1);
  }

  private static void imageOfNothing() {
    Due.by("all is as the IMAGE has it: nothing");
    LeftLacks x = new LeftLacks();
    x.image();
    x.shop(65);
    x.set(0, 3, 9);
    x.customer(63, 120, 999);
    x.cost(0, 9);
    x.rule(0, 1);
    x.rule(1, 2);
    Due.tellText(x, 0, "99");
    Due.tellText(x, 1, "9");
    x.loose(9);
    x.feed('k', 1);
    x.tell(5);
    Due.due("restore()", x.restore(), 0);
    int[] due = {0, 0, 0, 0, 0, 0, 0, 0, 0, 0, 1, 5, 5, 5, 5, 5, 5};
    for (int what = 0; what < due.length; what++) {
      Due.due("count(" + what + ")", x.count(what), due[what]);
    }
    Due.due("no TEXT", x.untell(0), 0);
    Due.due("no TEXT", x.untell(1), 0);
    Due.due("no SHOP", x.shopIs(0, 0), Due.BEYOND);
    Due.due("no CUSTOMER", x.customerIs(0, 0), Due.BEYOND);
    Due.due("check()", x.check(), 0);
  }

  private static LeftLacks full() {
    LeftLacks x = new LeftLacks();
    for (int i = 0; i < 6; i++) {
      x.shop(10 * i + i);
      x.set(i, 3 + i, 9 - i);
      x.set(i, 9 + i, 90 + i);
      x.cost(i, 20 + i);
    }
    for (int i = 0; i < 10; i++) {
      x.customer(6 * i, 10 * (i + 1) + i % 2, 100 * i);
    }
    Due.tellText(x, 0, "k+1+" + "1+".repeat(27) + "1");
    Due.tellText(x, 1, "c+1+" + "1+".repeat(27) + "1");
    x.rule(1, 2);
    x.rule(0, 1);
    x.loose(7);
    Due.feedAll(x, "1+".repeat(29) + "12");
    for (int i = 0; i < 24; i++) {
      x.tell(1000 + i);
    }
    return x;
  }

  private static void spoil(LeftLacks x) {
    for (int i = 0; i < 6; i++) {
      x.set(i, 0, 6 - i);
      x.set(i, 1, 9 - i);
      x.set(i, 3 + i, 1);
      x.set(i, 9 + i, 1);
      x.cost(i, 1);
    }
    for (int i = 0; i < 10; i++) {
      x.leave();
    }
    x.customer(1, 10, 1);
    x.text(0);
    x.untell(0);
    Due.tellText(x, 1, "1");
    x.rule(0, 0);
    x.rule(1, 0);
    x.check();
    x.tell(1);
    x.loose(5);
    x.seed(77);
    x.feed('7', 1);
  }

  private static void imageOfAll() {
    Due.by("all is kept: SHOPS, CUSTOMERS, COSTS, RING, LAW, DAYS, SALES, z, THE TAPE, what waits, TEXTS");
    LeftLacks x = full();
    LeftLacks twin = full();
    x.image();
    spoil(x);
    Due.due("restore()", x.restore(), 7);
    for (int what = 0; what <= 16; what++) {
      Due.due("count(" + what + ")", x.count(what), twin.count(what));
    }
    for (int i = 0; i < 6; i++) {
      for (int what = 0; what <= 15; what++) {
        Due.due("shopIs(" + i + ", " + what + ")", x.shopIs(i, what), twin.shopIs(i, what));
      }
    }
    for (int i = 0; i < 10; i++) {
      for (int what = 0; what <= 3; what++) {
        Due.due("customerIs(" + i + ", " + what + ")", x.customerIs(i, what), twin.customerIs(i, what));
      }
    }
    Due.due("what waits", x.check(), twin.check());
    x.shopIs(0, 0);
    x.set(0, 0, 6);
    twin.set(0, 0, 6);
    Due.due("the TEXT of FILLS", x.fills(0, 0), twin.fills(0, 0));
    Due.due("the TEXT of PRICE", x.price(0, 0), twin.price(0, 0));
    Due.due("THE TAPE", x.text(0), 1);
    Due.due("THE TAPE's", x.fills(0, 0), 41);
    twin.text(0);
    Due.due("what comes next", x.loose(9), twin.loose(9));
    Due.due("and z", x.count(10), twin.count(10));
    Due.due("and PURSES", x.count(6), twin.count(6));
  }

  private static void notKept() {
    Due.by("all (but SHEETS, THE TRACE, what told() tells, and how often this was done)");
    LeftLacks x = new LeftLacks();
    x.shop(11);
    x.sheet(0, 8, 3);
    x.voice(0, 0, 1);
    x.count(17);
    x.image();
    x.sheet(0, 0, 0);
    x.sheet(1, 16, 2);
    x.put(1, 1, 6);
    x.voice(0, 1, 1);
    x.count(17);
    x.image();
    x.restore();
    Due.due("a SHEET that is missing since", x.put(0, 0, 1), Due.NONE);
    Due.due("a SHEET that came since", x.judge(1), 0);
    Due.due("THE TRACE", x.count(9), 3);
    Due.due("THE TRACE", x.body(0), 11);
    Due.due("told(1)", x.told(1), 2);
    Due.due("how often", x.image(), 3);
    Due.by("image() and restore() themselves change none of these");
    Due.due("THE TRACE", x.count(9), 3);
    x.restore();
    Due.due("THE TRACE", x.count(9), 3);
  }

  private static void theImageStays() {
    Due.by("the IMAGE, which stays; in place of one ahead");
    LeftLacks x = new LeftLacks();
    x.shop(0);
    x.image();
    for (int i = 0; i < 3; i++) {
      x.set(0, 3, 7);
      x.shop(0);
      x.days(2);
      Due.due("restore()", x.restore(), 0);
      Due.due("SHOPS", x.count(0), 1);
      Due.due("KEEPS", x.shopIs(0, 3), 0);
    }
    x.days(4);
    x.image();
    x.days(4);
    Due.due("the later one", x.restore(), 4);
    Due.due("twice", x.restore(), 4);
  }

  private static void tells() {
    Due.by("tell: one more number waits: how many. FULL: 24 wait");
    LeftLacks x = new LeftLacks();
    for (int i = 1; i <= 24; i++) {
      Due.due("tell()", x.tell(i % 2 == 0 ? LEAST : MOST), i);
      Due.due("count(8)", x.count(8), i);
    }
    Due.due("the 25th", x.tell(0), Due.FULL);
    Due.due("the 26th", x.tell(0), Due.FULL);
    Due.due("count(8)", x.count(8), 24);
    Due.due("told(4)", x.told(4), 2);
    x.check();
    Due.due("room again", x.tell(0), 1);
  }

  /** One who buys on even DAYS alone. */
  private static LeftLacks evenDays() {
    LeftLacks x = new LeftLacks();
    x.shop(60);
    x.set(0, 3, 9);
    x.customer(1, 10, 0);
    Due.tellText(x, 1, "d%2");
    return x;
  }

  private static void checks() {
    Due.by("check: SALES of DAYS 1, 2, .. AHEAD: 0");
    LeftLacks x = evenDays();
    Due.due("none wait", x.check(), 0);
    for (int n = 1; n <= 24; n++) {
      for (int i = 0; i < n; i++) {
        x.tell((i + 1) % 2);
      }
      Due.due(n + " are so", x.check(), 0);
    }
    Due.by("else 1 and the place of the first that isn't so");
    LeftLacks y = evenDays();
    for (int wrong = 0; wrong < 12; wrong++) {
      for (int i = 0; i < 24; i++) {
        y.tell(i == wrong ? 5 : i > wrong ? 6 : (i + 1) % 2);
      }
      Due.due("the first that isn't so", y.check(), 1 + wrong);
    }
    Due.by("from now on, whatever DAYS so far");
    y.days(1);
    y.tell(0);
    y.tell(1);
    Due.due("the second DAY is the first AHEAD", y.check(), 0);
    y.tell(1);
    Due.due("it isn't the first", y.check(), 1);
    Due.due("DAYS stay", y.count(2), 1);
  }

  private static void checkForgets() {
    Due.by("the numbers that wait (none do then)");
    LeftLacks x = evenDays();
    x.tell(1);
    x.check();
    Due.due("all were so", x.count(8), 0);
    x.tell(7);
    x.tell(7);
    Due.due("the first wasn't", x.check(), 1);
    Due.due("none wait", x.count(8), 0);
    Due.due("0 then", x.check(), 0);
    Due.by("check() changes nothing else");
    int z = x.count(10);
    x.tell(1);
    x.check();
    Due.due("SALES", x.count(3), 0);
    Due.due("DAYS", x.count(2), 0);
    Due.due("z", x.count(10), z);
    Due.due("STOCK", x.shopIs(0, 9), 0);
    Due.by("no SHOPS, no CUSTOMERS");
    LeftLacks none = new LeftLacks();
    none.tell(0);
    none.tell(0);
    Due.due("all are 0", none.check(), 0);
    none.tell(0);
    none.tell(-1);
    Due.due("none is -1", none.check(), 2);
  }

  private static void counts() {
    Due.by("count: BEYOND");
    LeftLacks x = full();
    int[] none = {-1, 17, 18, LEAST, MOST};
    for (int what : none) {
      Due.due("count(" + what + ")", x.count(what), Due.BEYOND);
    }
    Due.due("told(1)", x.told(1), none.length);
    Due.by("count: each at its most");
    int[] due = {6, 10, 7, x.count(3), 1, 2, x.count(6), 60, 24, 0, x.count(10), 20, 21, 22, 23, 24, 25};
    for (int what = 0; what < due.length; what++) {
      Due.due("count(" + what + ")", x.count(what), due[what]);
    }
  }

  private static void purses() {
    Due.by("count(6): PURSES of all");
    LeftLacks x = Rows.poorest(6);
    Due.due("all at their least", x.count(6), -6 * 999999);
  }

  private static void toldEach() {
    Due.by("told: how many acts have answered an ERROR LOW - k");
    LeftLacks x = new LeftLacks();
    x.shop(0);
    for (int i = 0; i < 10; i++) {
      x.customer(0, 10, 0);
    }
    for (int i = 1; i <= 9; i++) {
      Due.due("BEYOND", x.cost(6, 0), -1000000001);
      Due.due("NONE", x.restore(), -1000000002);
      Due.due("STATE", x.sheet(0, 8, -1), -1000000003);
      Due.due("FULL", x.customer(0, 10, 0), -1000000004);
      Due.due("KIND", x.as(0, 1), -1000000005);
      Due.due("PARTED", x.voice(0, 3, 1), -1000000006);
      for (int k = 1; k <= 6; k++) {
        Due.due("told(" + k + ")", x.told(k), i);
      }
    }
  }

  private static void toldOthers() {
    Due.by("told: BEYOND: another k (counted, too)");
    LeftLacks x = new LeftLacks();
    int[] none = {0, -1, 7, 8, LEAST, MOST};
    for (int i = 0; i < none.length; i++) {
      Due.due("told(" + none[i] + ")", x.told(none[i]), Due.BEYOND);
      Due.due("told(1)", x.told(1), i + 1);
    }
    for (int k = 2; k <= 6; k++) {
      Due.due("told(" + k + ")", x.told(k), 0);
    }
    Due.by("FAULTS, SALES below 0 and the like are no ERRORS");
    x.text(0);
    x.seed(Due.BEYOND);
    x.seed(Due.NONE);
    Due.due("z", x.seed(Due.STATE), Due.NONE);
    Due.due("z", x.count(10), Due.STATE);
    Due.due("told(1)", x.told(1), none.length);
    Due.due("told(2)", x.told(2), 0);
    Due.due("told(3)", x.told(3), 0);
  }
}
