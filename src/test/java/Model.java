import java.util.ArrayList;
import java.util.List;

/** The document once more, written apart from the class and for plainness alone. */
final class Model {
  static final class Parted extends RuntimeException {
    private static final long serialVersionUID = 1L;
  }

  static final class Fault extends RuntimeException {
    private static final long serialVersionUID = 1L;
    final int place;

    Fault(int place) {
      this.place = place;
    }
  }

  static final class Refused extends RuntimeException {
    private static final long serialVersionUID = 1L;
    final int k;

    Refused(int k) {
      this.k = k;
    }
  }

  static final class Store {
    int kind;
    int m;
    int purse;
    int[] keeps = new int[6];
    int[] stock = new int[6];
    boolean[] had = new boolean[6];

    Store copy() {
      Store s = new Store();
      s.kind = kind;
      s.m = m;
      s.purse = purse;
      s.keeps = keeps.clone();
      s.stock = stock.clone();
      s.had = had.clone();
      return s;
    }

    void pay(long by) {
      purse = (int) Math.max(-999999, Math.min(999999, purse + by));
    }
  }

  /** A state that is copied whole whenever something is only tried. */
  static final class Town {
    int[] cost = {5, 5, 5, 5, 5, 5};
    boolean ring;
    int law;
    List<Store> row = new ArrayList<>();
    List<int[]> guests = new ArrayList<>();
    int days;
    int sales;
    int z = 1;
    String[] texts = new String[2];
    String tape = "";
    List<Integer> waits = new ArrayList<>();

    Town copy() {
      Town t = new Town();
      t.cost = cost.clone();
      t.ring = ring;
      t.law = law;
      for (Store s : row) {
        t.row.add(s.copy());
      }
      t.guests.addAll(guests);
      t.days = days;
      t.sales = sales;
      t.z = z;
      t.texts = texts.clone();
      t.tape = tape;
      t.waits.addAll(waits);
      return t;
    }

    Store left(Store s) {
      int i = row.indexOf(s);
      if (i > 0) {
        return row.get(i - 1);
      }
      return ring ? row.get(row.size() - 1) : null;
    }

    boolean has(Store s, int g) {
      return s != null && s.stock[g] > 0;
    }

    boolean may(Store s, int g) {
      Store left = left(s);
      boolean may = has(s, g) && !has(left, g);
      if (law == 1) {
        may = may && (left == null || !has(left(left), g));
      }
      if (law == 2) {
        may = may && (left == null || !left.had[g]);
      }
      return may;
    }

    int mays(Store s) {
      int bits = 0;
      for (int g = 0; g < 6; g++) {
        bits += may(s, g) ? 1 << g : 0;
      }
      return bits;
    }

    int fillsAs(int kind, Store s, int g) {
      switch (kind) {
        case 0: return s.keeps[g];
        case 1: return has(left(s), g) ? 0 : fillsAs(0, s, g);
        case 2: return fillsAs(0, s, g) / 2;
        case 3: return s.keeps[g] != 0 ? 1 : 0;
        case 4: {
          int lacker = fillsAs(1, s, g);
          return lacker != 0 ? lacker + s.m : 0;
        }
        case 5: return fillsAs(2, s, g);
        default: {
          int l = left(s) == null ? 0 : left(s).stock[g];
          String text = texts[0] == null ? "k" : texts[0];
          return new Eval(text, "klgm", s.keeps[g], l, g, s.m).whole();
        }
      }
    }

    int fills(Store s, int g) {
      return Math.max(0, Math.min(99, fillsAs(s.kind, s, g)));
    }

    int priceAs(int kind, Store s, int g) {
      switch (kind) {
        case 0: return 2 * cost[g];
        case 1: return priceAs(0, s, g);
        case 2: return priceAs(0, s, g) + s.m;
        case 3: return 3 * cost[g];
        case 4: return priceAs(1, s, g) + cost[g];
        case 5: return priceAs(2, s, g);
        default: {
          String text = texts[1] == null ? "2*c" : texts[1];
          return new Eval(text, "csdm", cost[g], s.stock[g], days, s.m).whole();
        }
      }
    }

    int price(Store s, int g) {
      return Math.max(0, Math.min(999, priceAs(s.kind, s, g)));
    }

    void morning() {
      for (Store s : row) {
        for (int g = 0; g < 6; g++) {
          int f = fills(s, g);
          for (int more = s.stock[g]; more < f; more++) {
            s.pay(-cost[g]);
          }
          s.stock[g] = f;
        }
      }
      for (Store s : row) {
        Store left = left(s);
        if (s.kind == 5 && left != null && left != s) {
          for (int g = 0; g < 6; g++) {
            if (has(s, g) && has(left, g) && left.stock[g] <= s.m) {
              buyOut(s, left, g);
              break;
            }
          }
        }
      }
      for (Store s : row) {
        for (int g = 0; g < 6; g++) {
          s.had[g] = s.stock[g] > 0;
        }
      }
    }

    void buyOut(Store s, Store left, int g) {
      int each = price(left, g);
      int n = left.stock[g];
      for (int i = 0; i < n; i++) {
        s.pay(-each);
        left.pay(each);
      }
      left.stock[g] = 0;
      s.stock[g] = Math.min(99, s.stock[g] + n);
    }

    int visit(int[] guest) {
      List<Store> way = new ArrayList<>();
      for (int round = 0; round < (ring ? 12 : 1); round++) {
        for (int i = 0; i < row.size(); i++) {
          way.add(row.get(guest[2] == 0 ? i : row.size() - 1 - i));
        }
      }
      int coin = guest[3];
      int got = 0;
      for (int i = 0; i < way.size() && i < guest[1]; i++) {
        Store s = way.get(i);
        for (int g = 0; g < 6; g++) {
          boolean wanted = (guest[0] & 1 << g) != 0 && (got & 1 << g) == 0;
          if (wanted && may(s, g) && price(s, g) <= coin) {
            int p = price(s, g);
            s.stock[g]--;
            s.pay(p);
            coin -= p;
            got |= 1 << g;
          }
        }
      }
      return got;
    }

    void day(boolean loose) {
      morning();
      int sold = 0;
      for (int[] guest : guests) {
        if (loose) {
          z = z * 1103515245 + 12345;
          if ((z >>> 8) % 4 == 0) {
            continue;
          }
        }
        for (int set = visit(guest); set != 0; set &= set - 1) {
          sold++;
        }
      }
      sales = sold;
      days++;
    }

    Town ahead(int n) {
      Town t = copy();
      for (int i = 0; i < n; i++) {
        t.day(false);
      }
      return t;
    }

    int is(int shop, int what) {
      Store s = row.get(shop);
      if (what < 3) {
        return what == 0 ? s.kind : what == 1 ? s.m : s.purse;
      }
      return what < 9 ? s.keeps[what - 3] : what < 15 ? s.stock[what - 9] : mays(s);
    }
  }

  /** Reads and works out at once, by the grammar's own lines. */
  static final class Eval {
    final String text;
    final String names;
    final int[] values;
    int at = 0;
    int open = 0;

    Eval(String text, String names, int... values) {
      this.text = text;
      this.names = names;
      this.values = values;
    }

    int whole() {
      int v = t();
      if (at < text.length()) {
        throw new Fault(at);
      }
      return v;
    }

    boolean eat(char c) {
      if (at < text.length() && text.charAt(at) == c) {
        at++;
        return true;
      }
      return false;
    }

    int t() {
      int v = a();
      while (eat('|')) {
        int w = a();
        v = v != 0 | w != 0 ? 1 : 0;
      }
      return v;
    }

    int a() {
      int v = b();
      while (eat('&')) {
        int w = b();
        v = v != 0 & w != 0 ? 1 : 0;
      }
      return v;
    }

    int b() {
      int v = s();
      if (eat('<')) {
        return v < s() ? 1 : 0;
      }
      if (eat('=')) {
        return v == s() ? 1 : 0;
      }
      if (eat('>')) {
        return v > s() ? 1 : 0;
      }
      return v;
    }

    int s() {
      int v = p();
      while (true) {
        if (eat('+')) {
          v += p();
        } else if (eat('-')) {
          v -= p();
        } else {
          return v;
        }
      }
    }

    int p() {
      int v = q();
      while (true) {
        if (eat('*')) {
          v *= q();
        } else if (eat('/')) {
          int w = q();
          v = w == 0 ? 0 : (int) ((long) v / w);
        } else if (eat('%')) {
          int w = q();
          v = w == 0 ? 0 : (int) ((long) v % w);
        } else {
          return v;
        }
      }
    }

    int q() {
      if (at >= text.length()) {
        throw new Fault(at);
      }
      char c = text.charAt(at);
      if (c >= '0' && c <= '9') {
        int v = 0;
        for (int i = 0; i < 4 && at < text.length() && Character.isDigit(text.charAt(at)); i++) {
          v = 10 * v + text.charAt(at++) - '0';
        }
        return v;
      }
      if (names.indexOf(c) >= 0) {
        return values[names.indexOf(text.charAt(at++))];
      }
      if (c != '!' && c != '(' || open == 5) {
        throw new Fault(at);
      }
      at++;
      open++;
      int v;
      if (c == '!') {
        v = q() == 0 ? 1 : 0;
      } else {
        v = t();
        if (!eat(')')) {
          throw new Fault(at);
        }
      }
      open--;
      return v;
    }
  }

  /** The VOICES as Java classes have them. */
  static class ShopVoice {
    final int k;
    final int m;
    final List<Integer> trace;

    ShopVoice(int k, int m, List<Integer> trace) {
      this.k = k;
      this.m = m;
      this.trace = trace;
    }

    int sells(int x) {
      trace.add(10);
      return x + k;
    }

    int fills(int x) {
      trace.add(11);
      return sells(x) * 2;
    }

    int owes(int x) {
      trace.add(12);
      return fills(x) - m;
    }

    int parts(int x) {
      trace.add(13);
      if (m - k == 0) {
        throw new Parted();
      }
      return x / (m - k);
    }

    static ShopVoice of(int kind, int k, int m, List<Integer> trace) {
      switch (kind) {
        case 0: return new ShopVoice(k, m, trace);
        case 1: return new LackerVoice(k, m, trace);
        case 2: return new HalfVoice(k, m, trace);
        case 3: return new DearVoice(k, m, trace);
        case 4: return new HoarderVoice(k, m, trace);
        case 5: return new BuyerVoice(k, m, trace);
        default: return new ToldVoice(k, m, trace);
      }
    }
  }

  static class LackerVoice extends ShopVoice {
    LackerVoice(int k, int m, List<Integer> trace) {
      super(k, m, trace);
    }

    @Override int sells(int x) {
      trace.add(20);
      return super.sells(x) - 4;
    }

    @Override int parts(int x) {
      trace.add(21);
      return super.parts(x) + fills(1);
    }
  }

  static class HalfVoice extends ShopVoice {
    HalfVoice(int k, int m, List<Integer> trace) {
      super(k, m, trace);
    }

    @Override int fills(int x) {
      trace.add(30);
      return 0 - super.fills(x);
    }
  }

  static class DearVoice extends ShopVoice {
    DearVoice(int k, int m, List<Integer> trace) {
      super(k, m, trace);
    }

    @Override int owes(int x) {
      trace.add(40);
      return super.owes(x / 2);
    }
  }

  static class HoarderVoice extends LackerVoice {
    HoarderVoice(int k, int m, List<Integer> trace) {
      super(k, m, trace);
    }

    @Override int sells(int x) {
      trace.add(50);
      return super.sells(x) * 3;
    }

    @Override int owes(int x) {
      trace.add(51);
      return super.owes(x) ^ k;
    }
  }

  static class BuyerVoice extends HalfVoice {
    BuyerVoice(int k, int m, List<Integer> trace) {
      super(k, m, trace);
    }

    @Override int fills(int x) {
      trace.add(60);
      return super.fills(x + 1);
    }
  }

  static class ToldVoice extends ShopVoice {
    ToldVoice(int k, int m, List<Integer> trace) {
      super(k, m, trace);
    }

    @Override int sells(int x) {
      trace.add(70);
      return 2;
    }

    @Override int fills(int x) {
      trace.add(71);
      return super.fills(x) + m;
    }
  }

  private Town town = new Town();
  private Town kept = null;
  private int images = 0;
  private List<Integer> trace = new ArrayList<>();
  private final int[] bits = new int[4];
  private final int[][] sheets = new int[4][];
  private final int[] told = new int[7];

  private static void ask(boolean fine, int k) {
    if (!fine) {
      throw new Refused(k);
    }
  }

  private static boolean in(int v, int least, int most) {
    return least <= v && v <= most;
  }

  private void askShop(int shop) {
    ask(in(shop, 0, town.row.size() - 1), 1);
  }

  private void askSheet(int sheet) {
    ask(in(sheet, 0, 3), 1);
    ask(bits[sheet] != 0, 2);
  }

  /** A call by its name; feed's word comes as w. */
  int call(String name, long w, int... v) {
    try {
      switch (name) {
        case "cost": case "rule": case "shop": case "shopIs": case "as": case "set": case "price":
        case "fills": case "customer": case "customerIs": case "leave":
          return goods(name, v);
        case "feed": case "text": case "untell": case "morning": case "visit": case "days":
        case "loose": case "seed":
          return textsAndDays(name, w, v);
        case "then": case "keep": case "range": case "turn": case "out": case "joined": case "walk":
          return wouldBe(name, v);
        default:
          return rest(name, v);
      }
    } catch (Refused refused) {
      told[refused.k]++;
      return Due.LOW - refused.k;
    }
  }

  private boolean fits(int wants, int sf, int coin) {
    return in(wants, 0, 63) && sf >= 0 && in(sf / 10, 1, 12) && in(sf % 10, 0, 1) && in(coin, 0, 999);
  }

  private int goods(String name, int[] v) {
    int was;
    switch (name) {
      case "cost":
        ask(in(v[0], 0, 5) && in(v[1], 0, 99), 1);
        was = town.cost[v[0]];
        town.cost[v[0]] = v[1];
        return was;
      case "rule":
        ask(in(v[0], 0, 1) && in(v[1], 0, v[0] + 1), 1);
        was = v[0] == 0 ? (town.ring ? 1 : 0) : town.law;
        if (v[0] == 0) {
          town.ring = v[1] == 1;
        } else {
          town.law = v[1];
        }
        return was;
      case "shop":
        ask(v[0] >= 0 && v[0] < 70, 1);
        ask(town.row.size() < 6, 4);
        Store s = new Store();
        s.kind = v[0] / 10;
        s.m = v[0] % 10;
        town.row.add(s);
        return town.row.size() - 1;
      case "shopIs":
        askShop(v[0]);
        ask(in(v[1], 0, 15), 1);
        return town.is(v[0], v[1]);
      case "as":
        askShop(v[0]);
        ask(in(v[1], 0, 6), 1);
        ask(ShopVoice.of(v[1], 0, 0, null).getClass().isInstance(
            ShopVoice.of(town.row.get(v[0]).kind, 0, 0, null)), 5);
        return town.row.get(v[0]).purse;
      case "set":
        askShop(v[0]);
        int[] most = {6, 9, -1, 9, 9, 9, 9, 9, 9, 99, 99, 99, 99, 99, 99};
        ask(in(v[1], 0, 14), 1);
        ask(in(v[2], 0, most[v[1]]), 1);
        was = town.is(v[0], v[1]);
        Store t = town.row.get(v[0]);
        if (v[1] == 0) {
          t.kind = v[2];
        } else if (v[1] == 1) {
          t.m = v[2];
        } else if (v[1] < 9) {
          t.keeps[v[1] - 3] = v[2];
        } else {
          t.stock[v[1] - 9] = v[2];
        }
        return was;
      case "price": case "fills":
        askShop(v[0]);
        ask(in(v[1], 0, 5), 1);
        Store u = town.row.get(v[0]);
        return name.equals("price") ? town.price(u, v[1]) : town.fills(u, v[1]);
      case "customer":
        ask(fits(v[0], v[1], v[2]), 1);
        ask(town.guests.size() < 10, 4);
        town.guests.add(new int[] {v[0], v[1] / 10, v[1] % 10, v[2]});
        return town.guests.size() - 1;
      case "customerIs":
        ask(in(v[0], 0, town.guests.size() - 1) && in(v[1], 0, 3), 1);
        return town.guests.get(v[0])[v[1]];
      default:
        ask(!town.guests.isEmpty(), 3);
        town.guests.remove(town.guests.size() - 1);
        return town.guests.size();
    }
  }

  private int textsAndDays(String name, long w, int[] v) {
    switch (name) {
      case "feed":
        ask(in(v[0], 1, 8), 1);
        ask(town.tape.length() + v[0] <= 60, 4);
        for (int i = 0; i < v[0]; i++) {
          town.tape += (char) (w >> 8 * i & 255);
        }
        return town.tape.length();
      case "text":
        ask(in(v[0], 0, 1), 1);
        String read = town.tape;
        town.tape = "";
        try {
          new Eval(read, v[0] == 0 ? "klgm" : "csdm", 1, 1, 1, 1).whole();
        } catch (Fault fault) {
          return -10 - fault.place;
        }
        town.texts[v[0]] = read;
        return 1;
      case "untell":
        ask(in(v[0], 0, 1), 1);
        int was = town.texts[v[0]] == null ? 0 : 1;
        town.texts[v[0]] = null;
        return was;
      case "morning":
        town.morning();
        int all = 0;
        for (Store s : town.row) {
          for (int n : s.stock) {
            all += n;
          }
        }
        return all;
      case "visit":
        ask(in(v[0], 0, town.guests.size() - 1), 1);
        return town.visit(town.guests.get(v[0]));
      case "seed":
        int z = town.z;
        town.z = v[0];
        return z;
      default:
        ask(in(v[0], 1, 60), 1);
        ask(town.days + v[0] <= 9999, 3);
        for (int i = 0; i < v[0]; i++) {
          town.day(name.equals("loose"));
        }
        return town.sales;
    }
  }

  private int wouldBe(String name, int[] v) {
    switch (name) {
      case "then":
        ask(in(v[0], 0, 60) && in(v[2], 0, 15), 1);
        askShop(v[1]);
        return town.ahead(v[0]).is(v[1], v[2]);
      case "keep":
        askShop(v[0]);
        ask(in(v[1], 0, 5) && in(v[2], 1, 20), 1);
        int[] purses = new int[10];
        for (int keeps = 0; keeps < 10; keeps++) {
          Town t = town.copy();
          t.row.get(v[0]).keeps[v[1]] = keeps;
          purses[keeps] = t.ahead(v[2]).row.get(v[0]).purse;
        }
        return firstGreatest(purses);
      case "range":
        return range(v);
      case "turn":
        askShop(v[0]);
        ask(in(v[1], 1, 20), 1);
        int[] turned = new int[town.row.size()];
        for (int by = 0; by < turned.length; by++) {
          Town t = town.copy();
          Store mine = t.row.get(v[0]);
          for (int i = 0; i < by; i++) {
            t.row.add(0, t.row.remove(t.row.size() - 1));
          }
          int place = t.row.indexOf(mine);
          turned[by] = t.ahead(v[1]).row.get(place).purse;
        }
        return firstGreatest(turned);
      case "out":
        askShop(v[0]);
        ask(in(v[1], 0, 5), 1);
        Town with = town.copy();
        Store buyer = with.row.get(v[0]);
        Store left = with.left(buyer);
        ask(left != null && left != buyer && left.stock[v[1]] > 0, 3);
        Town without = town.copy();
        with.buyOut(buyer, left, v[1]);
        for (int[] guest : town.guests) {
          with.visit(guest);
          without.visit(guest);
        }
        return buyer.purse - without.row.get(v[0]).purse;
      case "joined":
        askShop(v[0]);
        ask(v[0] != town.row.size() - 1 && in(v[1], 1, 20), 1);
        Town apart = town.ahead(v[1]);
        Town t = town.copy();
        Store next = t.row.remove(v[0] + 1);
        Store one = t.row.get(v[0]);
        one.pay(next.purse);
        for (int g = 0; g < 6; g++) {
          one.keeps[g] = Math.min(9, one.keeps[g] + next.keeps[g]);
          one.stock[g] = Math.min(99, one.stock[g] + next.stock[g]);
        }
        return t.ahead(v[1]).row.get(v[0]).purse - apart.row.get(v[0]).purse
            - apart.row.get(v[0] + 1).purse;
      default:
        ask(in(v[0], 0, town.guests.size() - 1), 1);
        int[] guest = town.guests.get(v[0]);
        int found = 0;
        int shops = town.row.size();
        for (int n = 0; n <= shops; n++) {
          if ((guest[0] & ~found) == 0) {
            return n;
          }
          if (n < shops) {
            found |= town.mays(town.row.get(guest[2] == 0 ? n : shops - 1 - n));
          }
        }
        throw new Refused(2);
    }
  }

  private static int firstGreatest(int[] row) {
    int best = 0;
    for (int i = 1; i < row.length; i++) {
      best = row[i] > row[best] ? i : best;
    }
    return best;
  }

  private int range(int[] v) {
    askShop(v[0]);
    ask(in(v[1], 1, 5), 1);
    int[] purses = new int[64];
    int greatest = Integer.MIN_VALUE;
    for (int set = 0; set < 64; set++) {
      Town t = town.copy();
      for (int g = 0; g < 6; g++) {
        t.row.get(v[0]).keeps[g] *= set >> g & 1;
      }
      purses[set] = t.ahead(v[1]).row.get(v[0]).purse;
      greatest = Math.max(greatest, purses[set]);
    }
    for (int many = 0; many <= 6; many++) {
      for (int set = 0; set < 64; set++) {
        if (Integer.bitCount(set) == many && purses[set] == greatest) {
          return set;
        }
      }
    }
    throw new IllegalStateException();
  }

  private int rest(String name, int[] v) {
    switch (name) {
      case "voice":
        askShop(v[0]);
        ask(in(v[1], 0, 3), 1);
        trace = new ArrayList<>();
        Store s = town.row.get(v[0]);
        ShopVoice who = ShopVoice.of(s.kind, v[0], s.m, trace);
        try {
          return v[1] == 0 ? who.sells(v[2]) : v[1] == 1 ? who.fills(v[2])
              : v[1] == 2 ? who.owes(v[2]) : who.parts(v[2]);
        } catch (Parted parted) {
          throw new Refused(6);
        }
      case "body":
        ask(in(v[0], 0, Math.min(30, trace.size()) - 1), 2);
        return trace.get(v[0]);
      case "sheet":
        ask(in(v[0], 0, 3) && (v[1] == 0 || v[1] == 8 || v[1] == 16 || v[1] == 32), 1);
        if (v[1] != 0) {
          ask(v[2] >= 0, 3);
          ask(v[2] <= 24, 1);
        }
        bits[v[0]] = v[1];
        sheets[v[0]] = v[1] == 0 ? null : new int[v[2]];
        return 1;
      case "put":
        askSheet(v[0]);
        ask(in(v[1], 0, sheets[v[0]].length - 1), 1);
        int off = 32 - bits[v[0]];
        sheets[v[0]][v[1]] = v[2] << off >> off;
        return 1;
      case "move":
        ask(in(v[0], 0, 3) && in(v[2], 0, 3), 1);
        ask(bits[v[0]] != 0 && bits[v[2]] != 0, 2);
        ask(bits[v[0]] == bits[v[2]], 5);
        ask(v[1] >= 0 && v[3] >= 0 && v[4] >= 0, 1);
        ask((long) v[1] + v[4] <= sheets[v[0]].length, 1);
        ask((long) v[3] + v[4] <= sheets[v[2]].length, 1);
        int[] were = sheets[v[0]].clone();
        for (int i = 0; i < v[4]; i++) {
          sheets[v[2]][v[3] + i] = were[v[1] + i];
        }
        return v[4];
      case "customers": case "judge":
        askSheet(v[0]);
        return name.equals("judge") ? judge(sheets[v[0]]) : customers(sheets[v[0]]);
      case "came":
        ask(in(v[0], 0, 3) && in(v[2], 0, 3), 1);
        askShop(v[1]);
        askSheet(v[0]);
        ask(sheets[v[0]].length >= 6, 2);
        return came(sheets[v[0]], v[1], v[2]);
      default:
        return images(name, v);
    }
  }

  private int judge(int[] numbers) {
    Town t = town.copy();
    for (int i = 0; 2 * i + 1 < numbers.length; i++) {
      int shop = numbers[2 * i];
      int good = numbers[2 * i + 1];
      if (!in(shop, 0, t.row.size() - 1) || !in(good, 0, 5) || !t.may(t.row.get(shop), good)) {
        return i;
      }
      t.row.get(shop).stock[good]--;
    }
    return numbers.length / 2;
  }

  private int customers(int[] numbers) {
    int came = 0;
    for (int i = 0; i + 2 < numbers.length; i += 3) {
      if (!fits(numbers[i], numbers[i + 1], numbers[i + 2]) || town.guests.size() == 10) {
        return came;
      }
      goods("customer", new int[] {numbers[i], numbers[i + 1], numbers[i + 2]});
      came++;
    }
    return came;
  }

  private int came(int[] numbers, int shop, int what) {
    List<Integer> sets = new ArrayList<>();
    for (int set = 0; set < 1 << town.guests.size(); set++) {
      Town t = town.copy();
      for (int c = 0; c < town.guests.size(); c++) {
        if ((set >> c & 1) == 1) {
          t.visit(town.guests.get(c));
        }
      }
      boolean same = true;
      for (int g = 0; g < 6; g++) {
        same = same && t.row.get(shop).stock[g] == numbers[g];
      }
      if (same) {
        sets.add(set);
      }
    }
    if (what == 0) {
      return sets.size();
    }
    ask(what == 3 || !sets.isEmpty(), 2);
    int and = -1;
    int or = 0;
    for (int set : sets) {
      and &= set;
      or |= set;
    }
    return what == 1 ? sets.get(0) : what == 2 ? and : or;
  }

  private int images(String name, int[] v) {
    switch (name) {
      case "image":
        kept = town.copy();
        return ++images;
      case "restore":
        ask(kept != null, 2);
        town = kept.copy();
        return town.days;
      case "tell":
        ask(town.waits.size() < 24, 4);
        town.waits.add(v[0]);
        return town.waits.size();
      case "check":
        List<Integer> waited = town.waits;
        town.waits = new ArrayList<>();
        for (int i = 0; i < waited.size(); i++) {
          if (town.ahead(i + 1).sales != waited.get(i)) {
            return 1 + i;
          }
        }
        return 0;
      case "count":
        ask(in(v[0], 0, 16), 1);
        int purses = 0;
        for (Store s : town.row) {
          purses += s.purse;
        }
        int[] all = {town.row.size(), town.guests.size(), town.days, town.sales, town.ring ? 1 : 0,
            town.law, purses, town.tape.length(), town.waits.size(), Math.min(30, trace.size()),
            town.z, town.cost[0], town.cost[1], town.cost[2], town.cost[3], town.cost[4],
            town.cost[5]};
        return all[v[0]];
      case "told":
        ask(in(v[0], 1, 6), 1);
        return told[v[0]];
      default:
        throw new IllegalStateException(name);
    }
  }
}
