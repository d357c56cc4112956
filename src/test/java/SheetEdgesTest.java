/** Term 5 and promises 30 to 34, sentence by sentence: each one that names an edge. */
public final class SheetEdgesTest {
  private static final int MOST = Integer.MAX_VALUE;
  private static final int LEAST = Integer.MIN_VALUE;

  public static void main(String[] args) {
    missingAtFirst();
    lengths();
    bits();
    stateAheadOfBeyond();
    allAreNought();
    putOrder();
    lowestBits();
    moveOrder();
    movePlaces();
    moveAsTheyWere();
    customersUpTo();
    customersTillFull();
    judgeFirst();
    judgeOneBehindTheOther();
    judgeByLaws();
    Due.end("SheetEdgesTest");
  }

  private static void missingAtFirst() {
    Due.by("SHEETS 0 .. 3 are missing (as at first)");
    LeftLacks x = new LeftLacks();
    x.shop(0);
    for (int sheet = 0; sheet <= 3; sheet++) {
      Due.due("put", x.put(sheet, 0, 0), Due.NONE);
      Due.due("move", x.move(sheet, 0, sheet, 0, 0), Due.NONE);
      Due.due("customers", x.customers(sheet), Due.NONE);
      Due.due("judge", x.judge(sheet), Due.NONE);
      Due.due("came", x.came(sheet, 0, 0), Due.NONE);
    }
    Due.due("told(2)", x.told(2), 20);
    Due.by("no such SHEET");
    int[] none = {-1, 4, LEAST, MOST};
    for (int sheet : none) {
      Due.due("sheet", x.sheet(sheet, 8, 1), Due.BEYOND);
      Due.due("sheet, missing", x.sheet(sheet, 0, 1), Due.BEYOND);
      Due.due("put", x.put(sheet, 0, 0), Due.BEYOND);
      Due.due("move", x.move(sheet, 0, 0, 0, 0), Due.BEYOND);
      Due.due("move", x.move(0, 0, sheet, 0, 0), Due.BEYOND);
      Due.due("customers", x.customers(sheet), Due.BEYOND);
      Due.due("judge", x.judge(sheet), Due.BEYOND);
      Due.due("came", x.came(sheet, 0, 0), Due.BEYOND);
    }
    Due.due("told(1)", x.told(1), 8 * none.length);
    Due.by("0: it is missing, n doesn't matter: 1");
    x.sheet(2, 8, 3);
    Due.due("it is there", x.put(2, 0, 1), 1);
    int[] lengths = {0, 24, 25, -1, LEAST, MOST};
    for (int n : lengths) {
      Due.due("missing, n " + n, x.sheet(2, 0, n), 1);
      Due.due("missing", x.put(2, 0, 1), Due.NONE);
      Due.due("missing again, n " + n, x.sheet(2, 0, n), 1);
    }
  }

  private static void lengths() {
    Due.by("at most 24 numbers");
    LeftLacks x = new LeftLacks();
    for (int n = 0; n <= 24; n++) {
      Due.due("sheet of " + n, x.sheet(3, 16, n), 1);
      Due.due("the last", x.put(3, n - 1, 1), n == 0 ? Due.BEYOND : 1);
      Due.due("one behind the last", x.put(3, n, 1), Due.BEYOND);
    }
    Due.due("of 25", x.sheet(3, 16, 25), Due.BEYOND);
    Due.due("of most", x.sheet(3, 16, MOST), Due.BEYOND);
    Due.due("it stays", x.put(3, 23, 1), 1);
    Due.by("a SHEET of no numbers isn't missing");
    x.sheet(0, 8, 0);
    Due.due("customers", x.customers(0), 0);
    Due.due("judge", x.judge(0), 0);
    Due.due("move", x.move(0, 0, 0, 0, 0), 0);
    Due.due("put", x.put(0, 0, 0), Due.BEYOND);
  }

  private static void bits() {
    Due.by("of so many bits (8, 16, 32; 0)");
    LeftLacks x = new LeftLacks();
    for (int bits = -40; bits <= 70; bits++) {
      boolean fits = bits == 0 || bits == 8 || bits == 16 || bits == 32;
      Due.due("bits " + bits, x.sheet(0, bits, 1), fits ? 1 : Due.BEYOND);
    }
    Due.due("least", x.sheet(0, LEAST, 1), Due.BEYOND);
    Due.due("most", x.sheet(0, MOST, 1), Due.BEYOND);
    Due.due("the one of 32 stays", x.put(0, 0, 1), 1);
  }

  private static void stateAheadOfBeyond() {
    Due.by("STATE: n is below 0 (ahead of BEYOND of n)");
    LeftLacks x = new LeftLacks();
    x.sheet(1, 8, 2);
    Due.due("-1", x.sheet(1, 8, -1), Due.STATE);
    Due.due("least", x.sheet(1, 32, LEAST), Due.STATE);
    Due.due("told(3)", x.told(3), 2);
    Due.due("it stays", x.put(1, 1, 1), 1);
    Due.due("25 is BEYOND", x.sheet(1, 8, 25), Due.BEYOND);
    Due.by("BEYOND of SHEET and bits ahead of STATE");
    Due.due("no such SHEET", x.sheet(4, 8, -1), Due.BEYOND);
    Due.due("no such bits", x.sheet(1, 9, -1), Due.BEYOND);
    Due.due("told(3)", x.told(3), 2);
  }

  private static void allAreNought() {
    Due.by("a SHEET has n numbers, all 0");
    LeftLacks x = new LeftLacks();
    x.shop(0);
    x.sheet(0, 8, 6);
    Due.due("all 0", x.came(0, 0, 0), 1);
    for (int i = 0; i < 6; i++) {
      x.put(0, i, 5);
      Due.due("not all 0", x.came(0, 0, 0), 0);
      x.sheet(0, 8, 6);
      Due.due("all 0 again", x.came(0, 0, 0), 1);
    }
    x.put(0, 5, 5);
    x.sheet(0, 0, 0);
    x.sheet(0, 8, 6);
    Due.due("all 0 behind a missing one", x.came(0, 0, 0), 1);
    x.put(0, 5, 5);
    x.sheet(0, 16, 3);
    x.sheet(0, 8, 6);
    Due.due("all 0 behind a shorter one", x.came(0, 0, 0), 1);
  }

  private static void putOrder() {
    Due.by("put: BEYOND: no such SHEET. NONE: it is missing. BEYOND: no such number.");
    LeftLacks x = new LeftLacks();
    x.sheet(0, 8, 3);
    Due.due("no such SHEET, number", x.put(4, 9, 0), Due.BEYOND);
    Due.due("missing, no such number", x.put(1, 9, 0), Due.NONE);
    Due.due("missing, number below 0", x.put(1, -1, 0), Due.NONE);
    int[] none = {-1, 3, LEAST, MOST};
    for (int i : none) {
      Due.due("no such number " + i, x.put(0, i, 0), Due.BEYOND);
    }
    Due.due("the first", x.put(0, 0, 0), 1);
    Due.due("the last", x.put(0, 2, 0), 1);
    Due.due("told(1)", x.told(1), 5);
    Due.due("told(2)", x.told(2), 2);
  }

  /** The number that stands as COIN, as one by one is moved till a customer is taken. */
  private static void stands(int bits, int v, int due) {
    LeftLacks x = new LeftLacks();
    Due.write(x, 0, bits, 1, 10, v);
    boolean fits = due >= 0 && due <= 999;
    Due.due(v + " in " + bits + " bits comes", x.customers(0), fits ? 1 : 0);
    Due.due(v + " in " + bits + " bits", x.customerIs(0, 3), fits ? due : Due.BEYOND);
    // one below 0 shows itself by the STOCK that it is not, whatever it is
    Due.write(x, 1, bits, v, 0, 0, 0, 0, 0);
    x.shop(0);
    x.set(0, 9, due >= 0 && due <= 99 ? due : 0);
    Due.due(v + " as STOCK", x.came(1, 0, 0) > 0 ? 1 : 0, due >= 0 && due <= 99 ? 1 : 0);
  }

  private static void lowestBits() {
    Due.by("number i becomes v (its lowest bits), with a sign");
    int[] values = {0, 1, 99, 127, 128, 129, 255, 256, 257, 355, 999, 1000, 32767, 32768, 65535, 65536, 65537,
        65536 + 99, 1 << 24, MOST, LEAST, -1, -128, -129, -157, -255, -256, -32768, -32769, -65535, -65536};
    for (int v : values) {
      stands(8, v, (byte) v);
      stands(16, v, (short) v);
      stands(32, v, v);
    }
  }

  private static void moveOrder() {
    Due.by("move: BEYOND: no such SHEET. NONE: one is missing. KIND: they are of unlike bits. BEYOND: n, i, j");
    LeftLacks x = new LeftLacks();
    x.sheet(0, 8, 3);
    x.sheet(1, 16, 3);
    Due.due("no such SHEET, the other missing", x.move(4, 0, 3, 0, 1), Due.BEYOND);
    Due.due("missing, no such other SHEET", x.move(3, 0, 4, 0, 1), Due.BEYOND);
    Due.due("one is missing", x.move(0, 0, 3, 0, 1), Due.NONE);
    Due.due("one is missing", x.move(3, 0, 0, 0, 1), Due.NONE);
    Due.due("both are missing", x.move(3, 0, 2, 0, 1), Due.NONE);
    Due.due("missing ahead of n", x.move(3, 0, 0, 0, -1), Due.NONE);
    Due.due("missing ahead of i, j", x.move(0, -1, 3, 99, 1), Due.NONE);
    Due.due("unlike bits", x.move(0, 0, 1, 0, 1), Due.KIND);
    Due.due("unlike bits", x.move(1, 0, 0, 0, 1), Due.KIND);
    Due.due("unlike bits ahead of n", x.move(0, 0, 1, 0, -1), Due.KIND);
    Due.due("unlike bits ahead of i, j", x.move(0, 9, 1, -9, 1), Due.KIND);
    Due.due("unlike bits, none moved", x.move(0, 0, 1, 0, 0), Due.KIND);
    x.sheet(2, 32, 3);
    Due.due("unlike bits", x.move(1, 0, 2, 0, 1), Due.KIND);
    Due.due("unlike bits", x.move(0, 0, 2, 0, 1), Due.KIND);
    Due.due("told(1)", x.told(1), 2);
    Due.due("told(2)", x.told(2), 5);
    Due.due("told(5)", x.told(5), 7);
  }

  private static void movePlaces() {
    Due.by("move: BEYOND: n, i, or j is below 0, or they don't stand there");
    LeftLacks x = new LeftLacks();
    x.sheet(0, 8, 4);
    x.sheet(1, 8, 3);
    for (int i = -2; i <= 5; i++) {
      for (int j = -2; j <= 5; j++) {
        for (int n = -2; n <= 5; n++) {
          boolean fits = i >= 0 && j >= 0 && n >= 0 && i + n <= 4 && j + n <= 3;
          Due.due("move(0, " + i + ", 1, " + j + ", " + n + ")", x.move(0, i, 1, j, n), fits ? n : Due.BEYOND);
        }
      }
    }
    int[][] far = {{MOST, 0, 1}, {0, MOST, 1}, {0, 0, MOST}, {MOST, MOST, MOST}, {LEAST, 0, 1}, {0, LEAST, 1},
        {0, 0, LEAST}, {1, 0, MOST}, {MOST, 0, LEAST}, {2, 2, MOST - 1}};
    for (int[] one : far) {
      Due.due("far", x.move(0, one[0], 1, one[1], one[2]), Due.BEYOND);
    }
  }

  private static void moveAsTheyWere() {
    Due.by("n numbers come to another one (or the same), as they all were");
    for (int i = 0; i <= 4; i++) {
      for (int j = 0; j <= 4; j++) {
        for (int n = 0; n + Math.max(i, j) <= 5; n++) {
          LeftLacks x = new LeftLacks();
          Due.write(x, 0, 32, 10, 20, 30, 40, 50, 0);
          int[] due = {10, 20, 30, 40, 50};
          System.arraycopy(new int[] {10, 20, 30, 40, 50}, i, due, j, n);
          Due.due("move", x.move(0, i, 0, j, n), n);
          x.shop(0);
          for (int good = 0; good < 5; good++) {
            x.set(0, 9 + good, due[good]);
          }
          Due.due("from " + i + " to " + j + ", " + n, x.came(0, 0, 0), 1);
        }
      }
    }
    Due.by("the one that they come from stays");
    LeftLacks x = new LeftLacks();
    x.shop(0);
    Due.write(x, 0, 16, 1, 2, 3, 4, 5, 6);
    x.sheet(1, 16, 7);
    Due.due("move", x.move(0, 0, 1, 1, 6), 6);
    Due.due("move back", x.move(1, 1, 1, 0, 6), 6);
    for (int good = 0; good < 6; good++) {
      x.set(0, 9 + good, good + 1);
    }
    Due.due("the one", x.came(0, 0, 0), 1);
    Due.due("the other", x.came(1, 0, 0), 1);
    x.put(0, 0, 9);
    Due.due("each has its own", x.came(1, 0, 0), 1);
  }

  private static void customersUpTo() {
    Due.by("up to the first that customer() would refuse, or that isn't whole (no ERROR then)");
    for (int n = 0; n <= 9; n++) {
      LeftLacks x = new LeftLacks();
      Due.write(x, 0, 16, 1, 10, 0, 2, 21, 999, 63, 121, 5);
      x.sheet(1, 16, n);
      x.move(0, 0, 1, 0, n);
      Due.due(n + " numbers", x.customers(1), n / 3);
      Due.due("CUSTOMERS", x.count(1), n / 3);
      Due.due("told(1)", x.told(1), 0);
    }
    Due.by("three by three: WANTS, sf, COIN");
    LeftLacks x = new LeftLacks();
    int[][] three = {{1, 31, 700}, {20, 120, 8}, {63, 11, 999}};
    Due.write(x, 0, 16, 1, 31, 700, 20, 120, 8, 63, 11, 999);
    Due.due("all three", x.customers(0), 3);
    for (int i = 0; i < 3; i++) {
      Due.due("WANTS of " + i, x.customerIs(i, 0), three[i][0]);
      Due.due("STEPS of " + i, x.customerIs(i, 1), three[i][1] / 10);
      Due.due("FROM of " + i, x.customerIs(i, 2), three[i][1] % 10);
      Due.due("COIN of " + i, x.customerIs(i, 3), three[i][2]);
    }
    refusedCustomers();
  }

  private static void refusedCustomers() {
    Due.by("up to the first that customer() would refuse (no ERROR then)");
    int[][] wrong = {{-1, 10, 0}, {64, 10, 0}, {1, 9, 0}, {1, 0, 0}, {1, 12, 0}, {1, 19, 0}, {1, 122, 0},
        {1, 130, 0}, {1, -10, 0}, {1, 10, -1}, {1, 10, 1000}};
    for (int[] one : wrong) {
      LeftLacks x = new LeftLacks();
      Due.write(x, 2, 32, 5, 120, 7, one[0], one[1], one[2], 3, 10, 0);
      Due.due("the second is refused", x.customers(2), 1);
      Due.due("CUSTOMERS", x.count(1), 1);
      Due.due("WANTS", x.customerIs(0, 0), 5);
      Due.due("STEPS", x.customerIs(0, 1), 12);
      Due.due("FROM", x.customerIs(0, 2), 0);
      Due.due("COIN", x.customerIs(0, 3), 7);
      for (int k = 1; k <= 6; k++) {
        Due.due("no ERROR", x.told(k), 0);
      }
    }
  }

  private static void customersTillFull() {
    Due.by("customer() would refuse the eleventh (FULL)");
    for (int there = 0; there <= 10; there++) {
      LeftLacks x = new LeftLacks();
      for (int i = 0; i < there; i++) {
        x.customer(0, 10, 0);
      }
      x.sheet(0, 8, 24);
      for (int i = 0; i < 24; i++) {
        x.put(0, i, i % 3 == 1 ? 10 : i);
      }
      int came = Math.min(8, 10 - there);
      Due.due(there + " are there", x.customers(0), came);
      Due.due("CUSTOMERS", x.count(1), there + came);
      Due.due("no ERROR", x.told(4), 0);
    }
    Due.by("customers: BEYOND. NONE.");
    LeftLacks x = new LeftLacks();
    Due.due("missing", x.customers(0), Due.NONE);
    Due.due("no such SHEET", x.customers(4), Due.BEYOND);
    Due.due("no such SHEET", x.customers(-1), Due.BEYOND);
  }

  private static LeftLacks twoShops() {
    LeftLacks x = new LeftLacks();
    x.shop(0);
    x.shop(0);
    x.set(0, 9, 2);
    x.set(1, 9, 2);
    x.set(1, 14, 1);
    return x;
  }

  private static void judge(int due, int... numbers) {
    LeftLacks x = twoShops();
    Due.write(x, 0, 32, numbers);
    Due.due("judge", x.judge(0), due);
    Due.due("again", x.judge(0), due);
    Due.due("nothing is sold", x.shopIs(0, 9), 2);
  }

  private static void judgeFirst() {
    Due.by("the first (0, 1, ..) that isn't one that MAY be");
    judge(0, 1, 0);
    judge(1, 0, 0, 1, 0);
    judge(2, 0, 0, 0, 0, 0, 0);
    judge(0, 0, 1);
    Due.by("no such SHOP, GOOD, too");
    int[] none = {-1, LEAST, MOST};
    for (int v : none) {
      judge(0, v, 0);
      judge(0, 0, v);
      judge(1, 0, 0, v, 0);
    }
    judge(0, 2, 0);
    judge(0, 0, 6);
    judge(1, 1, 5, 1, 6);
    Due.by("or one that isn't whole");
    judge(0, 0);
    judge(1, 0, 0, 0);
    judge(2, 0, 0, 0, 0, 1);
    Due.by("as many as there are: none");
    judge(0);
    judge(1, 0, 0);
    judge(1, 1, 5);
    judge(4, 0, 0, 0, 0, 1, 0, 1, 0);
    judge(4, 0, 0, 0, 0, 1, 0, 1, 0, 1, 0);
    Due.by("a SHEET of 24 numbers");
    LeftLacks x = twoShops();
    x.set(0, 9, 12);
    x.sheet(0, 8, 24);
    Due.due("twelve", x.judge(0), 12);
    x.set(0, 9, 11);
    Due.due("eleven", x.judge(0), 11);
  }

  private static void judgeOneBehindTheOther() {
    Due.by("one behind the other, from now on");
    judge(3, 0, 0, 0, 0, 1, 0);
    judge(1, 0, 0, 1, 0, 0, 0);
    judge(5, 0, 0, 1, 5, 0, 0, 1, 0, 1, 0);
    judge(1, 1, 5, 1, 5);
    Due.by("judge: BEYOND. NONE: it is missing.");
    LeftLacks x = new LeftLacks();
    Due.due("missing", x.judge(3), Due.NONE);
    Due.due("no such SHEET", x.judge(4), Due.BEYOND);
    Due.due("no such SHEET", x.judge(-1), Due.BEYOND);
    x.sheet(3, 8, 2);
    Due.due("no SHOPS", x.judge(3), 0);
  }

  private static void judgeByLaws() {
    Due.by("one that MAY be, by LAWS");
    LeftLacks x = twoShops();
    Due.write(x, 0, 8, 0, 0, 0, 0, 1, 0);
    Due.due("LAW 0", x.judge(0), 3);
    x.rule(1, 1);
    Due.due("LAW 1", x.judge(0), 3);
    x.rule(1, 2);
    Due.due("LAW 2, no MORNING yet", x.judge(0), 3);
    x.set(0, 3, 2);
    x.set(1, 3, 2);
    x.morning();
    Due.due("LAW 2, it had some", x.judge(0), 2);
    x.rule(0, 1);
    Due.due("in a RING", x.judge(0), 0);
    Due.by("PRICES, COIN don't matter");
    Due.due("no CUSTOMERS", x.count(1), 0);
  }
}
