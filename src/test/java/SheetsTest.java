/** Promises 30 to 35. */
public final class SheetsTest {
  public static void main(String[] args) {
    sheets();
    puts();
    moves();
    customers();
    judges();
    cames();
    Due.end("SheetsTest");
  }

  private static void sheets() {
    LeftLacks x = new LeftLacks();
    Due.due("30 sheet(0, 8, 24)", x.sheet(0, 8, 24), 1);
    Due.due("30 sheet(1, 16, 0)", x.sheet(1, 16, 0), 1);
    Due.due("30 sheet(3, 32, 1)", x.sheet(3, 32, 1), 1);
    Due.due("30 missing, n doesn't matter", x.sheet(3, 0, -1), 1);
    Due.due("30 missing, n doesn't matter", x.sheet(3, 0, 25), 1);
    Due.due("30 sheet(4, 8, 1)", x.sheet(4, 8, 1), Due.BEYOND);
    Due.due("30 sheet(-1, 8, 1)", x.sheet(-1, 8, 1), Due.BEYOND);
    Due.due("30 sheet(0, 9, 1)", x.sheet(0, 9, 1), Due.BEYOND);
    Due.due("30 sheet(0, 64, 1)", x.sheet(0, 64, 1), Due.BEYOND);
    Due.due("30 sheet(0, -8, 1)", x.sheet(0, -8, 1), Due.BEYOND);
    Due.due("30 sheet(0, 8, 25)", x.sheet(0, 8, 25), Due.BEYOND);
    Due.due("30 n below 0", x.sheet(0, 8, -1), Due.STATE);
    Due.due("30 beyond ahead of state", x.sheet(4, 8, -1), Due.BEYOND);
    Due.due("30 beyond ahead of state", x.sheet(0, 7, -1), Due.BEYOND);
    Due.due("30 told(1)", x.told(1), 8);
    Due.due("30 told(3)", x.told(3), 1);
    Due.due("30 the sheet stays", x.put(0, 23, 1), 1);
    Due.due("30 no numbers, but there", x.put(1, 0, 1), Due.BEYOND);
    x.shop(0);
    Due.write(x, 2, 32, 1, 2, 3, 4, 5, 6);
    x.sheet(2, 32, 6);
    Due.due("30 all are 0 again", x.came(2, 0, 0), 1);
  }

  private static void puts() {
    LeftLacks x = new LeftLacks();
    x.sheet(0, 8, 2);
    Due.due("31 put", x.put(0, 1, 5), 1);
    Due.due("31 no such sheet", x.put(4, 0, 0), Due.BEYOND);
    Due.due("31 no such sheet", x.put(-1, 0, 0), Due.BEYOND);
    Due.due("31 missing", x.put(1, 0, 0), Due.NONE);
    Due.due("31 missing ahead of no such number", x.put(1, -1, 0), Due.NONE);
    Due.due("31 no such number", x.put(0, 2, 0), Due.BEYOND);
    Due.due("31 no such number", x.put(0, -1, 0), Due.BEYOND);
    Due.due("31 told(1)", x.told(1), 4);
    Due.due("31 told(2)", x.told(2), 2);
    lowestBits(8, 256 + 7, 7);
    lowestBits(8, 255, -1);
    lowestBits(8, 128, -128);
    lowestBits(16, 65536 + 9, 9);
    lowestBits(16, 300, 300);
    lowestBits(16, 65535, -1);
    lowestBits(32, 65536 + 9, 65536 + 9);
    lowestBits(32, -1, -1);
  }

  /** A number shows itself by the sale or the customer that it is, or isn't. */
  private static void lowestBits(int bits, int v, int stands) {
    LeftLacks x = new LeftLacks();
    Due.write(x, 0, bits, 1, 10, v);
    boolean fits = stands >= 0 && stands <= 999;
    Due.due("31 " + v + " in " + bits + " bits", x.customers(0), fits ? 1 : 0);
    if (fits) {
      Due.due("31 " + v + " in " + bits + " bits stands", x.customerIs(0, 3), stands);
    }
  }

  private static int sum(LeftLacks x, int sheet, int... wants) {
    int came = x.customers(sheet);
    for (int i = 0; i < wants.length; i++) {
      Due.due("32 number of customer " + i, x.customerIs(i, 0), wants[i]);
    }
    while (x.count(1) > 0) {
      x.leave();
    }
    return came;
  }

  private static void moves() {
    LeftLacks x = new LeftLacks();
    Due.write(x, 0, 16, 1, 10, 0, 2, 10, 0, 3, 10, 0);
    Due.write(x, 1, 16, 7, 10, 0, 8, 10, 0);
    Due.due("32 move", x.move(0, 3, 1, 0, 3), 3);
    sum(x, 1, 2, 8);
    sum(x, 0, 1, 2, 3);
    Due.due("32 onto itself, to the right", x.move(0, 0, 0, 3, 6), 6);
    sum(x, 0, 1, 1, 2);
    Due.due("32 onto itself, to the left", x.move(0, 3, 0, 0, 6), 6);
    sum(x, 0, 1, 2, 2);
    Due.due("32 all", x.move(1, 0, 1, 0, 6), 6);
    Due.due("32 none", x.move(0, 9, 1, 6, 0), 0);
    Due.due("32 no such sheet", x.move(4, 0, 0, 0, 0), Due.BEYOND);
    Due.due("32 no such sheet", x.move(0, 0, -1, 0, 0), Due.BEYOND);
    Due.due("32 beyond ahead of missing", x.move(3, 0, 4, 0, 0), Due.BEYOND);
    Due.due("32 missing", x.move(0, 0, 3, 0, 1), Due.NONE);
    Due.due("32 missing", x.move(3, 0, 0, 0, 1), Due.NONE);
    Due.due("32 missing ahead of numbers", x.move(3, -1, 0, 0, 1), Due.NONE);
    x.sheet(2, 32, 9);
    Due.due("32 unlike bits", x.move(0, 0, 2, 0, 1), Due.KIND);
    Due.due("32 unlike bits ahead of numbers", x.move(0, 0, 2, 0, -1), Due.KIND);
    int[][] beyond = {{0, 0, -1}, {-1, 0, 1}, {0, -1, 1}, {7, 0, 3}, {0, 4, 3}, {10, 0, 0}, {0, 7, 0},
        {0, 0, 7}, {1, 0, Integer.MAX_VALUE}, {Integer.MAX_VALUE, 0, 1}, {0, Integer.MAX_VALUE, 1}};
    for (int[] one : beyond) {
      Due.due("32 beyond", x.move(0, one[0], 1, one[1], one[2]), Due.BEYOND);
    }
    sum(x, 0, 1, 2, 2);
    sum(x, 1, 2, 8);
    Due.due("32 told(1)", x.told(1), 3 + beyond.length);
    Due.due("32 told(2)", x.told(2), 3);
    Due.due("32 told(5)", x.told(5), 2);
  }

  private static void customers() {
    LeftLacks x = new LeftLacks();
    Due.write(x, 0, 16, 5, 121, 999, 6, 10, 0, 7, 10);
    Due.due("33 up to one that isn't whole", x.customers(0), 2);
    Due.due("33 wants", x.customerIs(0, 0), 5);
    Due.due("33 steps", x.customerIs(0, 1), 12);
    Due.due("33 from", x.customerIs(0, 2), 1);
    Due.due("33 coin", x.customerIs(0, 3), 999);
    Due.due("33 the next", x.customerIs(1, 0), 6);
    Due.write(x, 1, 16, 1, 10, 1000, 2, 10, 0);
    Due.due("33 the first is refused", x.customers(1), 0);
    Due.write(x, 1, 16, 1, 10, 10, 64, 10, 0, 3, 10, 0);
    Due.due("33 the second is refused", x.customers(1), 1);
    Due.due("33 so many", x.count(1), 3);
    x.sheet(2, 8, 0);
    Due.due("33 of none", x.customers(2), 0);
    Due.write(x, 2, 16, 1, 10, 1, 2, 10, 2, 3, 10, 3, 4, 10, 4, 5, 10, 5, 6, 10, 6, 7, 10, 7, 8, 10, 8);
    Due.due("33 till they are ten", x.customers(2), 7);
    Due.due("33 the last", x.customerIs(9, 0), 7);
    Due.due("33 full is no ERROR", x.told(4), 0);
    Due.due("33 refused is no ERROR", x.told(1), 0);
    Due.due("33 missing", x.customers(3), Due.NONE);
    Due.due("33 no such sheet", x.customers(4), Due.BEYOND);
    Due.due("33 no such sheet", x.customers(-1), Due.BEYOND);
    Due.due("33 told(1)", x.told(1), 2);
    Due.due("33 told(2)", x.told(2), 1);
  }

  private static void judge(LeftLacks x, int due, int... numbers) {
    Due.write(x, 0, 8, numbers);
    Due.due("34 judge", x.judge(0), due);
  }

  private static void judges() {
    LeftLacks x = new LeftLacks();
    x.shop(0);
    x.shop(0);
    x.set(0, 9, 1);
    x.set(1, 9, 2);
    judge(x, 0);
    judge(x, 0, 0);
    judge(x, 1, 0, 0);
    judge(x, 1, 0, 0, 1);
    judge(x, 0, 1, 0, 0, 0);
    judge(x, 3, 0, 0, 1, 0, 1, 0);
    judge(x, 3, 0, 0, 1, 0, 1, 0, 1, 0);
    judge(x, 1, 0, 0, 0, 0);
    judge(x, 0, 2, 0);
    judge(x, 0, -1, 0);
    judge(x, 0, 0, 6);
    judge(x, 0, 0, -1);
    judge(x, 1, 0, 0, 0, 1);
    Due.due("34 nothing is sold", x.shopIs(0, 9), 1);
    x.rule(0, 1);
    judge(x, 0, 0, 0);
    Due.due("34 missing", x.judge(1), Due.NONE);
    Due.due("34 no such sheet", x.judge(4), Due.BEYOND);
    Due.due("34 no such sheet", x.judge(-1), Due.BEYOND);
    Due.due("34 told(1)", x.told(1), 2);
    Due.due("34 told(2)", x.told(2), 1);
  }

  private static void came(LeftLacks x, int shop, int sets, int least, int surely, int maybe) {
    Due.due("35 sets", x.came(0, shop, 0), sets);
    Due.due("35 least", x.came(0, shop, 1), least);
    Due.due("35 surely", x.came(0, shop, 2), surely);
    Due.due("35 maybe", x.came(0, shop, 3), maybe);
  }

  private static void cames() {
    LeftLacks x = new LeftLacks();
    x.shop(0);
    x.shop(0);
    x.set(0, 9, 2);
    x.set(0, 10, 1);
    x.set(1, 9, 3);
    x.customer(1, 10, 999);
    x.customer(3, 10, 999);
    x.customer(1, 10, 999);
    x.customer(1, 11, 999);
    Due.write(x, 0, 8, 2, 1, 0, 0, 0, 0, 77);
    came(x, 0, 2, 0, 0, 0b1000);
    Due.write(x, 0, 8, 1, 1, 0, 0, 0, 0);
    came(x, 0, 4, 0b0001, 0, 0b1101);
    Due.write(x, 0, 8, 1, 0, 0, 0, 0, 0);
    came(x, 0, 2, 0b0010, 0b0010, 0b1010);
    Due.write(x, 0, 8, 0, 1, 0, 0, 0, 0);
    came(x, 0, 2, 0b0101, 0b0101, 0b1101);
    Due.write(x, 0, 8, 0, 0, 0, 0, 0, 0);
    came(x, 0, 6, 0b0011, 0b0010, 0b1111);
    Due.write(x, 0, 8, 2, 0, 0, 0, 0, 0);
    came(x, 0, 0, Due.NONE, Due.NONE, 0);
    Due.write(x, 0, 8, 2, 0, 0, 0, 0, 0);
    came(x, 1, 4, 0b1011, 0b1000, 0b1111);
    Due.due("35 nothing is sold", x.shopIs(0, 9), 2);
    Due.due("35 told(2)", x.told(2), 2);
    Due.due("35 no such sheet", x.came(4, 0, 0), Due.BEYOND);
    Due.due("35 no such shop", x.came(0, 2, 0), Due.BEYOND);
    Due.due("35 no such shop", x.came(0, -1, 0), Due.BEYOND);
    Due.due("35 no such what", x.came(0, 0, 4), Due.BEYOND);
    Due.due("35 no such what", x.came(0, 0, -1), Due.BEYOND);
    Due.due("35 beyond ahead of missing", x.came(1, 2, 0), Due.BEYOND);
    Due.due("35 missing", x.came(1, 0, 0), Due.NONE);
    Due.write(x, 1, 8, 2, 1, 0, 0, 0);
    Due.due("35 less than 6 numbers", x.came(1, 0, 0), Due.NONE);
    Due.due("35 told(1)", x.told(1), 6);
    Due.due("35 told(2)", x.told(2), 4);
    allTen();
  }

  private static void allTen() {
    LeftLacks x = new LeftLacks();
    x.shop(0);
    x.set(0, 9, 9);
    for (int i = 0; i < 10; i++) {
      x.customer(1, 10, 999);
    }
    Due.write(x, 0, 32, 0, 0, 0, 0, 0, 0);
    came(x, 0, 11, 511, 0, 1023);
    Due.write(x, 0, 32, 4, 0, 0, 0, 0, 0);
    came(x, 0, 252, 31, 0, 1023);
  }
}
