/** Promises 36 to 41. */
public final class ImagesTest {
  public static void main(String[] args) {
    images();
    notInImages();
    checks();
    counts();
    told();
    Due.end("ImagesTest");
  }

  private static LeftLacks busy() {
    LeftLacks x = new LeftLacks();
    x.cost(3, 8);
    x.rule(0, 1);
    x.rule(1, 2);
    x.shop(61);
    x.shop(24);
    x.set(0, 3, 7);
    x.set(1, 3, 5);
    x.set(1, 6, 5);
    x.customer(9, 31, 90);
    Due.tellText(x, 0, "k/2");
    Due.tellText(x, 1, "c*3");
    x.loose(5);
    x.feed(0x2b31L, 2);
    x.tell(17);
    return x;
  }

  /** All that can be asked without changing anything. */
  private static String all(LeftLacks x) {
    StringBuilder all = new StringBuilder();
    for (int what = 0; what <= 16; what++) {
      all.append(what == 9 ? 0 : x.count(what)).append(' ');
    }
    for (int i = 0; i < x.count(0); i++) {
      for (int what = 0; what < 16; what++) {
        all.append(x.shopIs(i, what)).append(' ');
      }
      for (int g = 0; g < 6; g++) {
        all.append(x.price(i, g)).append(' ').append(x.fills(i, g)).append(' ');
      }
    }
    for (int i = 0; i < x.count(1); i++) {
      for (int what = 0; what < 4; what++) {
        all.append(x.customerIs(i, what)).append(' ');
      }
    }
    return all.toString();
  }

  private static void same(String what, String got, String want) {
    Due.due(what + " (" + got + " for " + want + ")", got.equals(want) ? 1 : 0, 1);
  }

  private static void images() {
    LeftLacks x = new LeftLacks();
    Due.due("37 there is none", x.restore(), Due.NONE);
    Due.due("37 told(2)", x.told(2), 1);
    x = busy();
    String before = all(x);
    Due.due("36 image()", x.image(), 1);
    x.cost(3, 9);
    x.rule(0, 0);
    x.rule(1, 0);
    x.shop(0);
    x.set(0, 0, 3);
    x.set(1, 1, 0);
    x.set(1, 3, 1);
    x.set(0, 9, 44);
    x.leave();
    x.customer(1, 10, 1);
    x.customer(2, 20, 2);
    x.untell(0);
    Due.tellText(x, 1, "1");
    x.loose(7);
    x.seed(4);
    x.feed(0, 8);
    x.tell(4);
    Due.due("37 restore()", x.restore(), 5);
    same("37 all is as it was", all(x), before);
    x.days(3);
    x.check();
    x.text(0);
    Due.due("37 the image stays", x.restore(), 5);
    same("37 all is as it was again", all(x), before);
    Due.due("37 the tape's bytes", x.feed('2', 1), 3);
    Due.due("37 the tape's text", x.text(0), 1);
    Due.due("37 which is 1+2", x.fills(0, 0), 3);
    numbersThatWait();
    lawTwo();
  }

  private static void numbersThatWait() {
    LeftLacks x = new LeftLacks();
    x.shop(0);
    x.set(0, 3, 1);
    x.customer(1, 10, 10);
    x.tell(1);
    x.tell(7);
    x.image();
    Due.due("39 the second isn't so", x.check(), 2);
    x.tell(9);
    x.restore();
    Due.due("37 two wait", x.count(8), 2);
    Due.due("37 as they waited", x.check(), 2);
  }

  private static void lawTwo() {
    LeftLacks x = new LeftLacks();
    x.rule(1, 2);
    x.shop(0);
    x.shop(0);
    x.set(0, 3, 1);
    x.morning();
    x.set(0, 9, 0);
    x.set(1, 9, 1);
    Due.due("5 had some this morning", x.shopIs(1, 15), 0);
    x.image();
    x.set(0, 3, 0);
    x.set(1, 3, 1);
    x.morning();
    Due.due("5 had none this morning", x.shopIs(1, 15), 1);
    x.restore();
    Due.due("37 had some that morning", x.shopIs(1, 15), 0);
    x.shop(0);
    x.set(2, 3, 4);
    x.morning();
    x.restore();
    x.shop(10);
    Due.due("37 a new one keeps nothing", x.shopIs(2, 3), 0);
    Due.due("37 a new one has nothing", x.shopIs(2, 9), 0);
    Due.due("37 a new one's purse", x.shopIs(2, 2), 0);
    x.shop(0);
    x.set(3, 9, 1);
    Due.due("37 a new one had nothing", x.shopIs(3, 15), 1);
  }

  private static void notInImages() {
    LeftLacks x = busy();
    x.voice(0, 0, 1);
    x.image();
    Due.due("36 in place of one ahead", x.image(), 2);
    Due.write(x, 1, 8, 0, 0);
    x.voice(1, 1, 1);
    int bodies = x.count(9);
    x.count(99);
    x.restore();
    Due.due("37 sheets stay", x.put(1, 1, 1), 1);
    Due.due("37 the trace stays", x.count(9), bodies);
    Due.due("37 what told() tells stays", x.told(1), 1);
    Due.due("37 how often stays", x.image(), 3);
    x.days(2);
    x.image();
    x.days(2);
    Due.due("36 the later one", x.restore(), 7);
  }

  private static void checks() {
    LeftLacks x = new LeftLacks();
    x.shop(60);
    x.set(0, 3, 9);
    for (int i = 0; i < 9; i++) {
      x.customer(1, 10, i);
    }
    Due.tellText(x, 1, "d");
    // on day d those with coin of at least d buy
    Due.due("39 none wait", x.check(), 0);
    int[] sales = {9, 8, 7, 6, 5, 4, 3, 2, 1, 0, 0};
    for (int i = 0; i < sales.length; i++) {
      Due.due("38 tell", x.tell(sales[i]), i + 1);
    }
    Due.due("39 all are so", x.check(), 0);
    Due.due("39 none wait then", x.count(8), 0);
    for (int wrong = 0; wrong < 5; wrong++) {
      for (int i = 0; i < 5; i++) {
        x.tell(i == wrong ? 99 : sales[i]);
      }
      Due.due("39 the first that isn't so", x.check(), 1 + wrong);
      Due.due("39 none wait then", x.count(8), 0);
    }
    Due.due("39 nothing changes", x.count(2), 0);
    for (int i = 0; i < 24; i++) {
      x.tell(i);
    }
    Due.due("38 24 wait", x.tell(1), Due.FULL);
    Due.due("38 24 wait", x.count(8), 24);
    Due.due("38 told(4)", x.told(4), 1);
    Due.due("39 the first isn't so", x.check(), 1);
    x.tell(-5);
    Due.due("39 no sales are below 0", x.check(), 1);
  }

  private static void counts() {
    LeftLacks x = busy();
    x.voice(1, 1, 1);
    int[] due = {2, 1, 5, x.count(3), 1, 2, x.shopIs(0, 2) + x.shopIs(1, 2), 2, 1, 3, x.count(10), 5,
        5, 5, 8, 5, 5};
    for (int what = 0; what < due.length; what++) {
      Due.due("40 count(" + what + ")", x.count(what), due[what]);
    }
    Due.due("40 count(17)", x.count(17), Due.BEYOND);
    Due.due("40 count(-1)", x.count(-1), Due.BEYOND);
    Due.due("40 count(least)", x.count(Integer.MIN_VALUE), Due.BEYOND);
    Due.due("40 told(1)", x.told(1), 3);
    x.seed(-1000000001);
    Due.due("40 z is any number", x.count(10), -1000000001);
    Due.due("40 and no ERROR", x.told(1), 3);
  }

  private static void told() {
    LeftLacks x = new LeftLacks();
    Due.due("41 told(0)", x.told(0), Due.BEYOND);
    Due.due("41 told(7)", x.told(7), Due.BEYOND);
    Due.due("41 told(-1)", x.told(-1), Due.BEYOND);
    Due.due("41 counted, too", x.told(1), 3);
    x.body(0);
    x.restore();
    x.leave();
    for (int i = 0; i < 9; i++) {
      x.shop(0);
    }
    for (int i = 0; i < 4; i++) {
      x.as(0, 1 + i);
    }
    for (int i = 0; i < 5; i++) {
      x.voice(0, 3, i);
    }
    int[] due = {3, 2, 1, 3, 4, 5};
    for (int k = 1; k <= 6; k++) {
      Due.due("41 told(" + k + ")", x.told(k), due[k - 1]);
    }
  }
}
