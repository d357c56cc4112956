/** Rows of shops that several tests begin with. */
final class Rows {
  private Rows() {}

  static LeftLacks row(int... kms) {
    LeftLacks x = new LeftLacks();
    for (int km : kms) {
      x.shop(km);
    }
    return x;
  }

  static LeftLacks ring(int... kms) {
    LeftLacks x = row(kms);
    x.rule(0, 1);
    return x;
  }

  /** So many TOLD ones, each with a PURSE of -999999, that fill nothing. */
  static LeftLacks poorest(int shops) {
    LeftLacks x = new LeftLacks();
    for (int i = 0; i < shops; i++) {
      x.shop(60);
    }
    for (int good = 0; good < 6; good++) {
      x.cost(good, 99);
    }
    for (int i = 0; i < 20; i++) {
      Due.tellText(x, 0, "99");
      x.morning();
      Due.tellText(x, 0, "0");
      x.morning();
    }
    return x;
  }

  static void come(LeftLacks x, int times, int wants, int sf, int coin) {
    for (int i = 0; i < times; i++) {
      x.customer(wants, sf, coin);
    }
  }
}
