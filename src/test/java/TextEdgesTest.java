/** Term 2 and promises 13 to 15, sentence by sentence: each one that names an edge. */
public final class TextEdgesTest {
  public static void main(String[] args) {
    tape();
    words();
    numbers();
    choices();
    comparisons();
    sums();
    products();
    negations();
    openAtOnce();
    wraps();
    everyByte();
    tooEarly();
    namesByUses();
    namesAtEdges();
    telling();
    fullTape();
    Due.end("TextEdgesTest");
  }

  /** FILLS by a TEXT of TOLD SHOP 1, that KEEPS 5 of GOOD 3 with m 7, beside one that has 3. */
  private static int fills(String text) {
    LeftLacks x = new LeftLacks();
    x.shop(0);
    x.shop(67);
    x.set(0, 12, 3);
    x.set(1, 6, 5);
    Due.due("text " + text, Due.tellText(x, 0, text), 1);
    return x.fills(1, 3);
  }

  private static void gives(String text, int due) {
    Due.due("fills by " + text, fills(text), due);
  }

  private static void fault(int use, String text, int place) {
    LeftLacks x = new LeftLacks();
    Due.due("fault in " + text, Due.tellText(x, use, text), -10 - place);
    Due.due("THE TAPE is empty behind " + text, x.count(7), 0);
    for (int k = 1; k <= 6; k++) {
      Due.due("no ERROR in " + text, x.told(k), 0);
    }
  }

  private static void tape() {
    Due.by("THE TAPE (bytes, at most 60)");
    for (int n = 1; n <= 8; n++) {
      LeftLacks x = new LeftLacks();
      int there = 0;
      while (there + n <= 60) {
        there += n;
        Due.due("feed of " + n, x.feed(0, n), there);
      }
      Due.due("feed of " + n + " beyond 60", x.feed(0, n), Due.FULL);
      Due.due("bytes stay", x.count(7), there);
      if (there < 60) {
        Due.due("what still fits", x.feed(0, 60 - there), 60);
      }
      Due.due("not one more", x.feed(0, 1), Due.FULL);
      Due.due("told(4)", x.told(4), 2);
    }
    Due.by("feed: BEYOND, FULL, in this order");
    LeftLacks x = new LeftLacks();
    Due.due("feed of 0", x.feed(0, 0), Due.BEYOND);
    Due.due("feed of 9", x.feed(0, 9), Due.BEYOND);
    Due.due("feed of -8", x.feed(0, -8), Due.BEYOND);
    Due.due("feed of least", x.feed(0, Integer.MIN_VALUE), Due.BEYOND);
    Due.due("feed of most", x.feed(0, Integer.MAX_VALUE), Due.BEYOND);
    Due.feedAll(x, "1".repeat(60));
    Due.due("BEYOND ahead of FULL", x.feed(0, 0), Due.BEYOND);
    Due.due("BEYOND ahead of FULL", x.feed(0, 9), Due.BEYOND);
    Due.due("FULL", x.feed(0, 8), Due.FULL);
    Due.due("bytes", x.count(7), 60);
  }

  private static void words() {
    Due.by("the n lowest bytes of a word, the lowest first");
    for (int n = 1; n <= 8; n++) {
      LeftLacks x = new LeftLacks();
      x.shop(60);
      // 1+2+3+4+ : all odd places are signs, so that each n tells itself apart
      long word = 0x2b342b332b322b31L;
      Due.due("feed of " + n, x.feed(word, n), n);
      Due.due("text of " + n, x.text(0), n % 2 == 0 ? -10 - n : 1);
      int sum = n == 1 ? 1 : n == 3 ? 3 : n == 5 ? 6 : 10;
      Due.due("fills", x.fills(0, 0), n % 2 == 0 ? 0 : sum);
    }
    Due.by("bytes are 0 .. 255, the highest, too");
    LeftLacks x = new LeftLacks();
    x.feed(0xff2b6b2b6b2b6b31L, 8);
    Due.due("the second", x.text(0), -11);
    x.feed(0xff6b2b6b2b6b2b31L, 8);
    Due.due("the eighth", x.text(0), -17);
    x.shop(60);
    x.feed(0xffffffffffffff37L, 1);
    Due.due("only the lowest", x.text(0), 1);
    Due.due("fills", x.fills(0, 0), 7);
    x.feed(0x0131L, 1);
    x.feed(0x2bL, 1);
    x.feed(0x3131L, 2);
    Due.due("one behind another", x.text(0), 1);
    Due.due("fills", x.fills(0, 0), 12);
  }

  private static void numbers() {
    Due.by("a NUMBER of 1 to 4 digits");
    gives("0", 0);
    gives("9", 9);
    gives("12", 12);
    gives("098", 98);
    gives("0099", 99);
    gives("9999-9905", 94);
    gives("0000", 0);
    fault(0, "12345", 4);
    fault(0, "00000", 4);
    fault(0, "1+12345", 6);
    fault(0, "(12345)", 5);
    fault(0, "!12345", 5);
    Due.by("no blanks");
    fault(0, " 1", 0);
    fault(0, "1 ", 1);
    fault(0, "1 +1", 1);
    fault(0, "1\t", 1);
    Due.by("no sign of its own");
    fault(0, "-1", 0);
    fault(0, "+1", 0);
    fault(0, "2*-1", 2);
  }

  private static void choices() {
    Due.by("T: A { | A }. A: B { & B }. What is not 0 being true; 1 or 0");
    gives("0|0", 0);
    gives("0|7", 1);
    gives("7|0", 1);
    gives("7|9", 1);
    gives("0|0|0|3", 1);
    gives("0&0", 0);
    gives("0&7", 0);
    gives("7&0", 0);
    gives("7&9", 1);
    gives("2&1", 1);
    gives("1&2&3&0", 0);
    gives("(0-1)&(0-1)", 1);
    gives("0|(0-1)", 1);
    gives("1|0&0", 1);
    gives("0&0|1", 1);
    gives("(1|0)&0", 0);
    fault(0, "|1", 0);
    fault(0, "&1", 0);
    fault(0, "1||1", 2);
    fault(0, "1&&1", 2);
    fault(0, "1|&1", 2);
  }

  private static void comparisons() {
    Due.by("B: S, or S < S, S = S, S > S");
    gives("3<4", 1);
    gives("4<4", 0);
    gives("5<4", 0);
    gives("3=4", 0);
    gives("4=4", 1);
    gives("3>4", 0);
    gives("4>4", 0);
    gives("5>4", 1);
    gives("0-1<0", 1);
    gives("1+1=2*1", 1);
    gives("(1<2)<3", 1);
    gives("3>(1<2)", 1);
    gives("1<2&3<4|5<4", 1);
    fault(0, "1<2<3", 3);
    fault(0, "1=2=3", 3);
    fault(0, "1>2>3", 3);
    fault(0, "1<2=3", 3);
    fault(0, "1<2>3", 3);
    fault(0, "1=2+3*4<5", 7);
    fault(0, "0|1<2<3", 5);
    fault(0, "(1<2<3)", 4);
    fault(0, "1<=2", 2);
    fault(0, "1==2", 2);
    fault(0, "1><2", 2);
  }

  private static void sums() {
    Due.by("S: P { + P, - P }, from the left");
    gives("9-3-2", 4);
    gives("9-3+2", 8);
    gives("9-(3+2)", 4);
    gives("1-2+50", 49);
    fault(0, "1++1", 2);
    fault(0, "1+-1", 2);
    fault(0, "1-", 2);
  }

  private static void products() {
    Due.by("P: Q { * Q, / Q, % Q }, from the left");
    gives("2+3*4", 14);
    gives("20/3/2", 3);
    gives("20/(3/2)", 20);
    gives("7*3%4", 1);
    gives("7%4*3", 9);
    gives("12/5*5", 10);
    Due.by("/ cut, % the rest that it leaves");
    gives("50+(0-7)/2", 47);
    gives("50+7/(0-2)", 47);
    gives("50+(0-7)/(0-2)", 53);
    gives("50+(0-7)%3", 49);
    gives("50+7%(0-3)", 51);
    gives("50+(0-7)%(0-3)", 49);
    Due.by("both by 0 are 0");
    gives("7/0", 0);
    gives("7%0", 0);
    gives("50-0/0", 50);
    gives("50-0%0", 50);
    gives("50+(0-7)/(3-3)", 50);
    gives("50+(0-7)%(3-3)", 50);
    gives("1/0+2%0+3", 3);
    fault(0, "1*/1", 2);
    fault(0, "1%", 2);
  }

  private static void negations() {
    Due.by("! Q is 1 or 0");
    gives("!0", 1);
    gives("!1", 0);
    gives("!7", 0);
    gives("!(0-1)", 0);
    gives("!!7", 1);
    gives("!!!7", 0);
    Due.by("! Q: it takes but one Q");
    gives("!0+5", 6);
    gives("!0*5", 5);
    gives("!7<1", 1);
    gives("!0&0", 0);
    gives("!0|1", 1);
    gives("!(0&0)", 1);
    gives("5*!0", 5);
    gives("5-!0-!0", 3);
    gives("!12+1", 1);
    gives("!k+!l+!1", 0);
    gives("!(k)+2", 2);
    fault(0, "1!", 1);
    fault(0, "!", 1);
    fault(0, "!+1", 1);
    fault(0, "!)", 1);
  }

  private static void openAtOnce() {
    Due.by("at most 5 of ! and ( are open at once");
    gives("!!!!!0", 1);
    gives("(((((9)))))", 9);
    gives("!(!(!0))", 1);
    gives("(!(!(9)))", 1);
    fault(0, "!!!!!!0", 5);
    fault(0, "((((((9))))))", 5);
    fault(0, "!!!!!(9)", 5);
    fault(0, "(((((!9)))))", 5);
    fault(0, "!(!(!(9)))", 5);
    Due.by("one that is closed is open no more");
    gives("!!!!!0+!!!!!0", 2);
    gives("(((((9)))))+(((((9)))))", 18);
    gives("(((((9)+1)+1)+1)+1)", 13);
    gives("((((!0+!0))))", 2);
    gives("((((!0*(2)))))", 2);
    gives("!(1)+!!!!!0", 1);
    gives("(!!!!0+!!!!0)", 0);
    gives("!((((1))))+!((((1))))", 0);
    gives("!(((!1)))+(((((1)))))", 2);
    fault(0, "(!!!!0+!!!!!0)", 11);
    fault(0, "((((!0+(!0)))))", 8);
    fault(0, "(((((9)))))+((((((9))))))", 17);
    Due.by("signs between two parts close nothing");
    fault(0, "(((((1+1+(1))))))", 9);
    fault(0, "(((((1+1*1+!1)))))", 11);
    fault(0, "((((1+2+(3+4+(5))))))", 13);
    gives("((((1+2+(3+4+5)))))", 15);
    Due.by("a sixth is a FAULT, whatever would come behind it");
    fault(0, "!!!!!!", 5);
    fault(0, "((((((", 5);
    fault(0, "(((((", 5);
  }

  private static void wraps() {
    Due.by("ints that wrap");
    gives("9999*9999*9999<0", 1);
    gives("50+9999*9999*9999%50", 31);
    gives("8192*8192*32<0", 1);
    gives("8192*8192*32-1>0", 1);
    gives("8192*8192*64", 0);
    gives("8192*8192*64+7", 7);
    gives("0-8192*8192*32=8192*8192*32", 1);
    gives("8192*8192*32/(0-1)=8192*8192*32", 1);
    gives("8192*8192*32%(0-1)", 0);
    gives("(8192*8192*32-1+2)%100+60", 13);
    gives("9999*9999%100", 1);
    gives("50+(9999*9999*99)%100", 50 + 9999 * 9999 * 99 % 100);
  }

  private static void everyByte() {
    Due.by("the place of the first byte with which no TEXT goes on");
    for (int b = 0; b < 256; b++) {
      LeftLacks x = new LeftLacks();
      boolean begins = "0123456789klgm!(".indexOf(b) >= 0;
      boolean alone = "0123456789klgm".indexOf(b) >= 0;
      x.feed(b, 1);
      Due.due("byte " + b + " first", x.text(0), alone ? 1 : begins ? -11 : -10);
      boolean behind = "|&<=>+-*/%".indexOf(b) >= 0;
      x.feed('k' | b << 8, 2);
      Due.due("byte " + b + " behind a NAME", x.text(0), behind ? -12 : -11);
      x.feed('1' | b << 8, 2);
      boolean digit = b >= '0' && b <= '9';
      Due.due("byte " + b + " behind a digit", x.text(0), digit ? 1 : behind ? -12 : -11);
      x.feed('(' | '1' << 8 | ')' << 16 | (long) b << 24, 4);
      Due.due("byte " + b + " behind a bracket", x.text(0), behind ? -14 : -13);
      x.feed('(' | 'k' << 8 | b << 16, 3);
      Due.due("byte " + b + " in a bracket", x.text(0), b == ')' ? 1 : behind ? -13 : -12);
    }
  }

  private static void tooEarly() {
    Due.by("how many there are, if it ends too early");
    fault(0, "", 0);
    fault(1, "", 0);
    fault(0, "(", 1);
    fault(0, "(k", 2);
    fault(0, "(k)+", 4);
    fault(0, "((k)", 4);
    fault(0, "k|", 2);
    fault(0, "k=", 2);
    fault(0, "!!", 2);
    String most = "k+".repeat(30);
    fault(0, most, 60);
    fault(0, "(+k", 1);
    fault(0, "(".repeat(5) + "k+".repeat(27) + "k", 60);
    Due.by("a bracket that isn't open");
    fault(0, ")", 0);
    fault(0, "k)", 1);
    fault(0, "(k))", 3);
    fault(0, "()", 1);
    fault(0, "(k+)", 3);
  }

  private static void namesByUses() {
    Due.by("USES: NAMES k l g m; c s d m");
    String names = "klgmcsd";
    for (int i = 0; i < names.length(); i++) {
      String name = names.substring(i, i + 1);
      LeftLacks x = new LeftLacks();
      Due.due("NAME " + name + " for FILLS", Due.tellText(x, 0, name), i < 4 ? 1 : -10);
      Due.due("NAME " + name + " for PRICE", Due.tellText(x, 1, name), i >= 3 ? 1 : -10);
    }
    fault(0, "K", 0);
    fault(0, "km", 1);
    fault(1, "c1", 1);
    fault(1, "1c", 1);
    fault(1, "m+k", 2);
    fault(0, "m+c", 2);
  }

  private static void namesAtEdges() {
    Due.by("l how many the one TO THE LEFT has (0: nobody)");
    LeftLacks x = new LeftLacks();
    x.shop(60);
    x.shop(60);
    Due.tellText(x, 0, "l+1");
    x.set(0, 9, 98);
    x.set(1, 9, 40);
    Due.due("nobody", x.fills(0, 0), 1);
    Due.due("the left one", x.fills(1, 0), 99);
    x.rule(0, 1);
    Due.due("in a RING the last", x.fills(0, 0), 41);
    Due.by("k KEEPS, g GOOD, m m");
    Due.tellText(x, 0, "k*10+g");
    x.set(1, 8, 9);
    Due.due("KEEPS 9 of GOOD 5", x.fills(1, 5), 95);
    Due.due("KEEPS 0 of GOOD 0", x.fills(1, 0), 0);
    Due.tellText(x, 0, "m");
    x.set(1, 1, 9);
    Due.due("m 9", x.fills(1, 0), 9);
    Due.due("m 0", x.fills(0, 0), 0);
    Due.by("c COST, s its STOCK now, d DAYS so far, m m");
    Due.tellText(x, 1, "c");
    x.cost(5, 99);
    x.cost(4, 0);
    Due.due("COST 99", x.price(0, 5), 99);
    Due.due("COST 0", x.price(0, 4), 0);
    Due.tellText(x, 1, "s");
    Due.due("STOCK", x.price(0, 0), 98);
    x.set(0, 9, 0);
    Due.due("STOCK 0", x.price(0, 0), 0);
    Due.due("its own", x.price(1, 0), 40);
    Due.tellText(x, 1, "m");
    Due.due("m 9", x.price(1, 0), 9);
    Due.tellText(x, 1, "d");
    Due.due("DAYS 0", x.price(0, 0), 0);
    x.days(60);
    Due.due("DAYS 60", x.price(0, 0), 60);
  }

  private static void telling() {
    Due.by("text: the TEXT of a USE, in place of one ahead: 1");
    LeftLacks x = new LeftLacks();
    x.shop(60);
    Due.due("first", Due.tellText(x, 0, "1+1+1+1+1+1+1"), 1);
    Due.due("in place of it, a shorter one", Due.tellText(x, 0, "2"), 1);
    Due.due("fills", x.fills(0, 0), 2);
    Due.due("the other USE", Due.tellText(x, 1, "3"), 1);
    Due.due("fills", x.fills(0, 0), 2);
    Due.due("price", x.price(0, 0), 3);
    Due.by("text: BEYOND (THE TAPE stays)");
    x.feed('4', 1);
    int[] wrong = {-1, 2, Integer.MIN_VALUE, Integer.MAX_VALUE};
    for (int use : wrong) {
      Due.due("text(" + use + ")", x.text(use), Due.BEYOND);
      Due.due("untell(" + use + ")", x.untell(use), Due.BEYOND);
    }
    Due.due("bytes", x.count(7), 1);
    Due.due("told(1)", x.told(1), 8);
    Due.due("text(0) then", x.text(0), 1);
    Due.due("bytes", x.count(7), 0);
    Due.due("fills", x.fills(0, 0), 4);
    Due.by("text: the one ahead stays; THE TAPE is empty, too");
    Due.due("fault", Due.tellText(x, 0, "5+"), -12);
    Due.due("bytes", x.count(7), 0);
    Due.due("fills", x.fills(0, 0), 4);
    Due.due("of an empty TAPE", x.text(0), -10);
    Due.due("fills", x.fills(0, 0), 4);
    Due.due("fault of the other USE", Due.tellText(x, 1, "k"), -10);
    Due.due("price", x.price(0, 0), 3);
    Due.by("untell: 1 if there was, else 0");
    Due.due("untell(0)", x.untell(0), 1);
    Due.due("untell(0)", x.untell(0), 0);
    Due.due("fills", x.fills(0, 0), 0);
    Due.due("price", x.price(0, 0), 3);
    Due.due("untell(1)", x.untell(1), 1);
    Due.due("untell(1)", x.untell(1), 0);
    Due.due("price", x.price(0, 0), 10);
    Due.due("fault without one ahead", Due.tellText(x, 0, "("), -11);
    Due.due("there is none still", x.untell(0), 0);
    Due.due("a TEXT 0 is one, too", Due.tellText(x, 0, "0"), 1);
    Due.due("there is one", x.untell(0), 1);
  }

  private static void fullTape() {
    Due.by("a TEXT of 60 bytes");
    LeftLacks x = new LeftLacks();
    x.shop(60);
    Due.due("numbers", Due.tellText(x, 0, "1+".repeat(29) + "12"), 1);
    Due.due("fills", x.fills(0, 0), 41);
    Due.due("brackets", Due.tellText(x, 0, "(((((1+" + "1+".repeat(23) + "12)))))"), 1);
    Due.due("fills", x.fills(0, 0), 36);
    // each part binds more than the one ahead of it, so that most of them wait
    Due.due("waiting", Due.tellText(x, 0, "0|1&9=8+1*(0|1&2=1+1*(0|1&3=2+1*(0|1&4=3+1*(0|1&9=8+!0))))"), 1);
    Due.due("fills", x.fills(0, 0), 1);
    Due.due("waiting", Due.tellText(x, 0, "0|1&9=8+1*(0|1&2=1+1*(0|1&3=2+1*(0|1&4=3+1*(0|1&9=8+!1))))"), 1);
    Due.due("fills", x.fills(0, 0), 0);
    Due.due("all of !", Due.tellText(x, 0, "!!!!!0+".repeat(8) + "!!!0"), 1);
    Due.due("fills", x.fills(0, 0), 9);
  }
}
