/** Promises 13 to 15, and what TEXTS give to promises 8 and 9. */
public final class TextsTest {
  public static void main(String[] args) {
    feeding();
    values();
    faults();
    oneBehindAnother();
    names();
    telling();
    Due.end("TextsTest");
  }

  private static void feeding() {
    LeftLacks x = new LeftLacks();
    Due.due("13 feed of none", x.feed(0, 0), Due.BEYOND);
    Due.due("13 feed of 9", x.feed(0, 9), Due.BEYOND);
    Due.due("13 feed of -1", x.feed(0, -1), Due.BEYOND);
    for (int i = 1; i <= 7; i++) {
      Due.due("13 feed of 8", x.feed(-1L, 8), 8 * i);
    }
    Due.due("13 full", x.feed(0, 5), Due.FULL);
    Due.due("13 beyond ahead of full", x.feed(0, 9), Due.BEYOND);
    Due.due("13 tape stays", x.count(7), 56);
    Due.due("13 just full", x.feed(0, 4), 60);
    Due.due("13 full by one", x.feed(0, 1), Due.FULL);
    Due.due("13 told(4)", x.told(4), 2);
    Due.due("14 beyond", x.text(2), Due.BEYOND);
    Due.due("14 tape stays", x.count(7), 60);
    Due.due("14 no such byte", x.text(0), -10);
    Due.due("14 tape is empty", x.count(7), 0);
    x.shop(60);
    x.feed(0x393731L, 2);
    Due.due("13 the lowest bytes, the lowest first", x.text(0), 1);
    Due.due("13 so 17", x.fills(0, 0), 17);
  }

  /** FILLS are 50 more than a value, as these are held within 0 .. 99. */
  private static void value(String text, int due) {
    LeftLacks x = new LeftLacks();
    x.shop(0);
    x.shop(67);
    x.set(0, 12, 3);
    x.set(1, 6, 5);
    Due.due("14 text " + text, Due.tellText(x, 0, "50+(" + text + ")"), 1);
    Due.due("9 fills by " + text, x.fills(1, 3), 50 + due);
  }

  private static void values() {
    value("k", 5);
    value("l", 3);
    value("g", 3);
    value("m", 7);
    value("0012", 12);
    value("9-3-2", 4);
    value("2+3*4", 14);
    value("(2+3)*4", 20);
    value("20/3/2", 3);
    value("0-7/2", -3);
    value("(0-7)/2", -3);
    value("(0-7)%3", -1);
    value("7%(0-3)", 1);
    value("7/0", 0);
    value("7%0", 0);
    value("2*3%4", 2);
    value("!0", 1);
    value("!7", 0);
    value("!!7", 1);
    value("!0*5", 5);
    value("!(1-1)+2", 3);
    value("!12+1", 1);
    value("3<4", 1);
    value("4<4", 0);
    value("4=4", 1);
    value("4=5", 0);
    value("5>4", 1);
    value("4>4", 0);
    value("1+1=2", 1);
    value("2&4", 1);
    value("2&0", 0);
    value("0|4", 1);
    value("0|0", 0);
    value("1|0&0", 1);
    value("0&0|1", 1);
    value("1<2&3<4", 1);
    value("(1<2)<3", 1);
    value("3>(2>1)", 1);
    value("1=2|3=3", 1);
    value("9999*9999*9999>0", 0);
    value("9999*9999*22%10", -4);
    value("!!!!0+1", 1);
    value("((((1))))", 1);
    value("!(!(1))", 1);
  }

  private static void fault(int use, String text, int place) {
    LeftLacks x = new LeftLacks();
    Due.due("14 fault in " + text, Due.tellText(x, use, text), place < 0 ? 1 : -10 - place);
    Due.due("14 tape is empty behind " + text, x.count(7), 0);
    Due.due("14 no ERROR", x.told(1) + x.told(2) + x.told(3) + x.told(4) + x.told(5), 0);
  }

  private static void faults() {
    fault(0, "", 0);
    fault(0, "k+", 2);
    fault(0, "k+*", 2);
    fault(0, "1234", -1);
    fault(0, "12345", 4);
    fault(0, "00001", 4);
    fault(0, "1k", 1);
    fault(0, "k1", 1);
    fault(0, "kk", 1);
    fault(0, "(1)2", 3);
    fault(0, "(1", 2);
    fault(0, "(1))", 3);
    fault(0, ")", 0);
    fault(0, "()", 1);
    fault(0, "1!", 1);
    fault(0, "1(", 1);
    fault(0, "!", 1);
    fault(0, "-1", 0);
    fault(0, "1--1", 2);
    fault(0, "1 ", 1);
    fault(0, " 1", 0);
    fault(0, "1<2<3", 3);
    fault(0, "1<2=3", 3);
    fault(0, "1<2+3>4", 5);
    fault(0, "1<!2>4", 4);
    fault(0, "1<2&3<4<5", 7);
    fault(0, "1<(2<3)<4", 7);
    fault(0, "(1<2)<3", -1);
    fault(0, "1|2&3<4+5*!6", -1);
    fault(0, "!!!!!1", -1);
    fault(0, "!!!!!!1", 5);
    fault(0, "(((((1)))))", -1);
    fault(0, "((((((1))))))", 5);
    fault(0, "!(!(!(1)))", 5);
    fault(0, "!(!(!k))", -1);
    fault(0, "!!!!!1+!!!!!1", -1);
    fault(0, "(((((1)))))*(((((1)))))", -1);
    fault(0, "(!!!!1+!!!!1)", -1);
    fault(0, "(!!!!1+!!!!!1)", 11);
    fault(0, "(!1+((((2))))*!3)", -1);
    fault(0, "(1=1", 4);
    fault(0, "1?2", 1);
    fault(0, "1\u00ff", 1);
    fault(0, "\u0080", 0);
    fault(0, "c", 0);
    fault(0, "s", 0);
    fault(0, "d", 0);
    fault(1, "k", 0);
    fault(1, "l", 0);
    fault(1, "g", 0);
    fault(1, "c+s+d+m", -1);
    fault(0, "1+1+1+1+1+1+1+1+1+1+1+1+1+1+1+1+1+1+1+1+1+1+1+1+1+1+1+1+1+1", -1);
    fault(0, "1+1+1+1+1+1+1+1+1+1+1+1+1+1+1+1+1+1+1+1+1+1+1+1+1+1+1+1+1+1+", 60);
  }

  /** What one text leaves open is gone with it. */
  private static void oneBehindAnother() {
    LeftLacks x = new LeftLacks();
    x.shop(60);
    String[] broken = {"((((1", "!!!!", "1+(2*", "12", "(1<2", "1|!(", "k+"};
    for (String text : broken) {
      Due.tellText(x, 0, text);
      Due.due("14 behind " + text, Due.tellText(x, 0, "((((1))))"), 1);
      Due.due("9 behind " + text, x.fills(0, 0), 1);
      Due.tellText(x, 0, text);
      Due.due("14 digit behind " + text, Due.tellText(x, 0, "34"), 1);
      Due.due("9 digit behind " + text, x.fills(0, 0), 34);
      Due.tellText(x, 0, text);
      Due.due("14 bracket behind " + text, Due.tellText(x, 0, "3)"), -11);
    }
    Due.tellText(x, 0, "0|7");
    Due.due("9 the least binding sign", x.fills(0, 0), 1);
    Due.tellText(x, 0, "!0");
    Due.due("9 the most binding sign", x.fills(0, 0), 1);
  }

  private static void names() {
    LeftLacks x = new LeftLacks();
    x.shop(64);
    x.cost(1, 12);
    x.set(0, 10, 3);
    x.set(0, 4, 3);
    x.days(2);
    Due.tellText(x, 1, "c*100+s*10+d");
    Due.due("8 held within 999", x.price(0, 1), 999);
    Due.tellText(x, 1, "s*100+d*10+m");
    Due.due("8 stock, days, m", x.price(0, 1), 324);
    Due.tellText(x, 1, "c");
    Due.due("8 cost", x.price(0, 1), 12);
    Due.tellText(x, 1, "0-c");
    Due.due("8 held within 0", x.price(0, 1), 0);
    Due.tellText(x, 0, "0-k");
    Due.due("9 held within 0", x.fills(0, 1), 0);
    Due.tellText(x, 0, "k*50");
    Due.due("9 held within 99", x.fills(0, 1), 99);
    Due.tellText(x, 0, "l");
    Due.due("9 nobody is to the left", x.fills(0, 1), 0);
    x.rule(0, 1);
    Due.due("9 itself is to the left", x.fills(0, 1), 3);
  }

  private static void telling() {
    LeftLacks x = new LeftLacks();
    x.shop(60);
    x.shop(0);
    x.set(0, 3, 4);
    x.set(1, 3, 4);
    Due.due("9 without a text", x.fills(0, 0), 4);
    Due.due("8 without a text", x.price(0, 0), 10);
    Due.due("14 text(0)", Due.tellText(x, 0, "k+1"), 1);
    Due.due("14 in place of one ahead", Due.tellText(x, 0, "k+2"), 1);
    Due.due("9 by the later one", x.fills(0, 0), 6);
    Due.due("14 fault", Due.tellText(x, 0, "k+3+"), -14);
    Due.due("14 the one ahead stays", x.fills(0, 0), 6);
    Due.due("9 others as their kinds", x.fills(1, 0), 4);
    Due.due("15 untell(1)", x.untell(1), 0);
    Due.due("15 untell(0)", x.untell(0), 1);
    Due.due("15 untell(0) again", x.untell(0), 0);
    Due.due("9 without it", x.fills(0, 0), 4);
    Due.due("15 untell(2)", x.untell(2), Due.BEYOND);
    Due.due("15 untell(-1)", x.untell(-1), Due.BEYOND);
    Due.due("14 text(-1)", x.text(-1), Due.BEYOND);
    Due.due("15 told(1)", x.told(1), 3);
    Due.due("14 text(1)", Due.tellText(x, 1, "7"), 1);
    Due.due("8 by the text", x.price(0, 0), 7);
    Due.due("8 others as their kinds", x.price(1, 0), 10);
    Due.due("15 untell(1)", x.untell(1), 1);
    Due.due("8 without it", x.price(0, 0), 10);
  }
}
