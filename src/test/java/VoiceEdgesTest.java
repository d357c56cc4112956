/** Term 4 and promises 28 and 29, sentence by sentence: each one that names an edge. */
public final class VoiceEdgesTest {
  private static final int MOST = Integer.MAX_VALUE;
  private static final int LEAST = Integer.MIN_VALUE;

  public static void main(String[] args) {
    wraps();
    cutParts();
    parted();
    partedInLackers();
    numberAndM();
    foundFromTheKind();
    traces();
    traceAndRefusals();
    answersThatLookLikeErrors();
    Due.end("VoiceEdgesTest");
  }

  /** A row of so many SHOPS, the last of which is of km. */
  private static LeftLacks last(int shops, int km) {
    LeftLacks x = new LeftLacks();
    for (int i = 1; i < shops; i++) {
      x.shop(0);
    }
    x.shop(km);
    return x;
  }

  private static int voice(int shops, int km, int voice, int v) {
    return last(shops, km).voice(shops - 1, voice, v);
  }

  private static void wraps() {
    Due.by("with a number x (ints that wrap)");
    Due.due("10 x + k", voice(2, 0, 0, MOST), LEAST);
    Due.due("10 x + k", voice(6, 0, 0, LEAST), LEAST + 5);
    Due.due("11 twice", voice(1, 0, 1, 1 << 30), LEAST);
    Due.due("11 twice", voice(1, 0, 1, LEAST), 0);
    Due.due("12 less m", voice(1, 9, 2, 1 << 30), MOST - 8);
    Due.due("20 less 4", voice(1, 10, 0, LEAST), MOST - 3);
    Due.due("30 less than 0", voice(1, 20, 1, 1 << 30), LEAST);
    Due.due("30 less than 0", voice(1, 20, 1, MOST), 2);
    Due.due("50 thrice", voice(1, 40, 0, MOST), (MOST - 4) * 3);
    Due.due("50 thrice", voice(1, 40, 0, LEAST), (LEAST - 4) * 3);
    Due.due("60 x + 1", voice(1, 50, 1, MOST), 0);
    Due.due("71 and m", voice(1, 69, 1, MOST), 13);
    Due.due("21 and fills(1)", voice(1, 11, 3, LEAST), LEAST - 6);
    Due.by("^ of k");
    Due.due("51 owes ^ k", voice(6, 40, 2, 0), (5 - 4) * 3 * 2 ^ 5);
    Due.due("51 owes ^ 0", voice(1, 40, 2, 0), (0 - 4) * 3 * 2);
  }

  private static void cutParts() {
    Due.by("13 parts: x by (m - k), cut");
    int[] by = {9, 4, 2, 1};
    int[] values = {0, 1, 7, 9, -1, -7, -9, MOST, LEAST};
    for (int m : by) {
      for (int v : values) {
        Due.due(v + " by " + m, voice(1, m, 3, v), v / m);
      }
    }
    Due.by("by a number below 0");
    for (int v : values) {
      Due.due(v + " by -5", voice(6, 0, 3, v), v / -5);
    }
    Due.due("least by -1 wraps", voice(2, 0, 3, LEAST), LEAST);
    Due.due("most by -1", voice(2, 0, 3, MOST), -MOST);
    Due.by("40 owes: super.owes(x / 2), cut");
    int[] halves = {0, 1, -1, 3, -3, MOST, LEAST};
    for (int v : halves) {
      Due.due("owes of " + v, voice(1, 30, 2, v), v / 2 * 2);
    }
  }

  private static void parted() {
    Due.by("PARTED if that is 0; that is all that voice() answers then");
    for (int k = 0; k < 6; k++) {
      for (int kind = 0; kind <= 6; kind++) {
        LeftLacks x = last(k + 1, 10 * kind + k);
        Due.due("KIND " + kind + ", k " + k, x.voice(k, 3, 77), Due.PARTED);
        Due.due("told(6)", x.told(6), 1);
        Due.due("of 0, too", x.voice(k, 3, 0), Due.PARTED);
        Due.due("told(6)", x.told(6), 2);
        Due.due("the next VOICE speaks", x.voice(k, 0, 1) > Due.LOW ? 1 : 0, 1);
        x.set(k, 1, k + 1);
        Due.due("m 1 more", x.voice(k, 3, 0) > Due.LOW ? 1 : 0, 1);
        Due.due("told(6) stays", x.told(6), 2);
      }
    }
  }

  private static void partedInLackers() {
    Due.by("THE TRACE: of the latest voice() (PARTED, too), as they began");
    int[] kinds = {0, 1, 2, 3, 4, 5, 6};
    for (int kind : kinds) {
      LeftLacks x = last(1, 10 * kind);
      x.voice(0, 2, 5);
      Due.due("parted", x.voice(0, 3, 5), Due.PARTED);
      boolean lacks = kind == 1 || kind == 4;
      Due.due("BODIES of KIND " + kind, x.count(9), lacks ? 2 : 1);
      Due.due("the first", x.body(0), lacks ? 21 : 13);
      Due.due("the second", x.body(1), lacks ? 13 : Due.NONE);
      Due.due("no third", x.body(2), Due.NONE);
    }
  }

  private static void numberAndM() {
    Due.by("k is its number, m as told");
    for (int k = 0; k < 6; k++) {
      for (int m = 0; m <= 9; m++) {
        Due.due("k " + k, voice(k + 1, m, 0, 100), 100 + k);
        Due.due("m " + m, voice(k + 1, m, 2, 100), 2 * (100 + k) - m);
      }
    }
    LeftLacks x = last(1, 3);
    x.set(0, 1, 9);
    Due.due("m as it is now", x.voice(0, 2, 0), -9);
    x.set(0, 0, 6);
    Due.due("KIND as it is now", x.voice(0, 0, 55), 2);
  }

  private static void foundFromTheKind() {
    Due.by("the BODY of its KIND, or of the next KIND above that has one");
    int[][] firsts = {{10, 11, 12, 13}, {20, 11, 12, 21}, {10, 30, 12, 13}, {10, 11, 40, 13},
        {50, 11, 51, 21}, {10, 60, 12, 13}, {70, 71, 12, 13}};
    for (int kind = 0; kind <= 6; kind++) {
      for (int voice = 0; voice <= 3; voice++) {
        LeftLacks x = last(1, 10 * kind + 1);
        x.voice(0, voice, 1);
        Due.due("VOICE " + voice + " of KIND " + kind, x.body(0), firsts[kind][voice]);
      }
    }
    Due.by("super.fills(..) that from the KIND above the BODY's on");
    LeftLacks buyer = last(1, 50);
    Due.due("a BUYER's fills", buyer.voice(0, 1, 4), -10);
    Due.due("60", buyer.body(0), 60);
    Due.due("30", buyer.body(1), 30);
    Due.due("11", buyer.body(2), 11);
    Due.due("10", buyer.body(3), 10);
    Due.by("sells(..) is found from its KIND on, also in a BODY above");
    LeftLacks told = last(1, 65);
    Due.due("a TOLD one's fills", told.voice(0, 1, 40), 2 * 2 + 5);
    Due.due("70 behind 11", told.body(2), 70);
  }

  private static void traces() {
    Due.by("what stands left is worked out first");
    LeftLacks x = last(1, 45);
    x.voice(0, 3, 10);
    int[] due = {21, 13, 11, 50, 20, 10};
    for (int i = 0; i < due.length; i++) {
      Due.due("body " + i, x.body(i), due[i]);
    }
    Due.due("no more", x.body(due.length), Due.NONE);
    Due.by("of the latest voice()");
    x.voice(0, 0, 1);
    Due.due("BODIES", x.count(9), 3);
    Due.due("50", x.body(0), 50);
    Due.due("none of the one ahead", x.body(3), Due.NONE);
    Due.by("body: NONE: there is none such");
    int[] none = {-1, 30, 29, LEAST, MOST};
    for (int i : none) {
      Due.due("body " + i, x.body(i), Due.NONE);
    }
    LeftLacks silent = last(1, 0);
    Due.due("at first", silent.body(0), Due.NONE);
    Due.due("at first", silent.count(9), 0);
    Due.due("told(2)", silent.told(2), 1);
  }

  private static void traceAndRefusals() {
    Due.by("a refused voice() changes nothing, THE TRACE neither");
    LeftLacks x = last(2, 14);
    x.voice(1, 0, 5);
    int[][] wrong = {{2, 0}, {-1, 0}, {LEAST, 0}, {MOST, 0}, {1, 4}, {1, -1}, {1, LEAST}, {1, MOST}};
    for (int[] one : wrong) {
      Due.due("voice()", x.voice(one[0], one[1], 0), Due.BEYOND);
      Due.due("BODIES", x.count(9), 2);
      Due.due("the first", x.body(0), 20);
    }
    Due.due("told(1)", x.told(1), wrong.length);
    Due.by("BEYOND ahead of PARTED");
    LeftLacks none = new LeftLacks();
    Due.due("no such SHOP, m - k would be 0", none.voice(0, 3, 1), Due.BEYOND);
    Due.due("told(6)", none.told(6), 0);
  }

  private static void answersThatLookLikeErrors() {
    Due.by("only acts that are refused have answered an ERROR");
    LeftLacks x = last(1, 0);
    for (int k = 1; k <= 6; k++) {
      Due.due("sells", x.voice(0, 0, Due.LOW - k), Due.LOW - k);
    }
    for (int k = 1; k <= 6; k++) {
      Due.due("told(" + k + ")", x.told(k), 0);
    }
  }
}
