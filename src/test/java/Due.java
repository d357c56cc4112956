/** Counts the answers that are not the ones that are due; a test ends with exit code 1 if there was one. */
final class Due {
  static final int LOW = -1000000000;
  static final int BEYOND = LOW - 1;
  static final int NONE = LOW - 2;
  static final int STATE = LOW - 3;
  static final int FULL = LOW - 4;
  static final int KIND = LOW - 5;
  static final int PARTED = LOW - 6;

  private static int wrong = 0;
  private static int asked = 0;
  private static String sentence = "";

  private Due() {}

  /** The sentence of the document that what follows would break. */
  static void by(String words) {
    sentence = " (" + words + ")";
  }

  static void due(String call, long got, long want) {
    asked++;
    if (got != want) {
      wrong++;
      System.out.println(call + " answered " + got + ", due is " + want + sentence);
    }
  }

  static void end(String test) {
    System.out.println(test + ": " + (asked - wrong) + " of " + asked + " answers are as due");
    if (wrong != 0 || asked == 0) {
      System.exit(1);
    }
  }

  /** Feeds a text to THE TAPE, eight bytes a word. */
  static void feedAll(LeftLacks x, String text) {
    for (int start = 0; start < text.length(); start += 8) {
      int n = Math.min(8, text.length() - start);
      long word = 0;
      for (int i = n - 1; i >= 0; i--) {
        word = word << 8 | text.charAt(start + i);
      }
      x.feed(word, n);
    }
  }

  static int tellText(LeftLacks x, int use, String text) {
    feedAll(x, text);
    return x.text(use);
  }

  /** Puts numbers on a SHEET of so many bits. */
  static void write(LeftLacks x, int sheet, int bits, int... numbers) {
    x.sheet(sheet, bits, numbers.length);
    for (int i = 0; i < numbers.length; i++) {
      x.put(sheet, i, numbers[i]);
    }
  }
}
