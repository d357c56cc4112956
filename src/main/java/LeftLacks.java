import java.util.Arrays;

/** A row of shops, or a ring, each of which may sell only what the one to its left has none of. */
public final class LeftLacks {
  private static final int LOW = -1000000000;
  private static final int BEYOND = 1;
  private static final int NONE = 2;
  private static final int STATE = 3;
  private static final int FULL = 4;
  private static final int WRONG_KIND = 5;
  private static final int PARTED = 6;

  private static final int GOODS = 6;
  private static final int ALL_GOODS = 63;
  private static final int MOST_SHOPS = 6;
  private static final int MOST_CUSTOMERS = 10;
  private static final int MOST_BYTES = 60;
  private static final int MOST_WAITING = 24;
  private static final int MOST_BODIES = 30;
  private static final int MOST_STOCK = 99;
  private static final int MOST_KEEPS = 9;
  private static final int MOST_PRICE = 999;
  private static final int MOST_PURSE = 999999;
  private static final int MOST_DAYS = 9999;
  private static final int USES = 2;
  private static final int SHEETS = 4;

  private static final int SHOP = 0;
  private static final int LACKER = 1;
  private static final int HALF = 2;
  private static final int DEAR = 3;
  private static final int HOARDER = 4;
  private static final int BUYER = 5;
  private static final int TOLD = 6;
  private static final int KINDS = 7;
  /** The KIND above each KIND; nothing is above SHOP. */
  private static final int[] ABOVE = {-1, SHOP, SHOP, SHOP, LACKER, HALF, SHOP};

  private static final int IS_KIND = 0;
  private static final int IS_M = 1;
  private static final int IS_PURSE = 2;
  private static final int IS_KEEPS = 3;
  private static final int IS_STOCK = 9;
  private static final int IS_MAY = 15;

  private final World now = new World();
  private final World kept = new World();
  /** Where what would be is tried out, so that no such call has to make a row of its own. */
  private final World trial = new World();
  private final Sheet[] sheets = new Sheet[SHEETS];
  private final Reader reader = new Reader();
  private final Speaker speaker = new Speaker();
  private final Search search = new Search();
  private final int[] errors = new int[PARTED + 1];
  private int images;

  public LeftLacks() {
    for (int i = 0; i < SHEETS; i++) {
      sheets[i] = new Sheet();
    }
  }

  // ---- goods, shops, customers

  public int cost(int good, int v) {
    if (!isGood(good) || !within(v, 0, 99)) {
      return error(BEYOND);
    }
    int was = now.costs[good];
    now.costs[good] = v;
    return was;
  }

  public int rule(int what, int v) {
    if (what == 0 && within(v, 0, 1)) {
      int was = now.ring;
      now.ring = v;
      return was;
    }
    if (what == 1 && within(v, 0, 2)) {
      int was = now.law;
      now.law = v;
      return was;
    }
    return error(BEYOND);
  }

  public int shop(int km) {
    if (!within(km, 0, 10 * KINDS - 1)) {
      return error(BEYOND);
    }
    if (now.shopCount >= MOST_SHOPS) {
      return error(FULL);
    }
    now.shops[now.shopCount].open(km / 10, km % 10);
    now.shopCount++;
    return now.shopCount - 1;
  }

  public int shopIs(int shop, int what) {
    if (!now.hasShop(shop) || !within(what, IS_KIND, IS_MAY)) {
      return error(BEYOND);
    }
    return now.factOf(shop, what);
  }

  public int as(int shop, int kind) {
    if (!now.hasShop(shop) || !within(kind, 0, KINDS - 1)) {
      return error(BEYOND);
    }
    if (!isUnder(now.shops[shop].kind, kind)) {
      return error(WRONG_KIND);
    }
    return now.shops[shop].purse;
  }

  public int set(int shop, int what, int v) {
    if (!now.hasShop(shop) || !within(v, 0, mostOf(what))) {
      return error(BEYOND);
    }
    int was = now.factOf(shop, what);
    now.shops[shop].change(what, v);
    return was;
  }

  public int price(int shop, int good) {
    if (!now.hasShop(shop) || !isGood(good)) {
      return error(BEYOND);
    }
    return now.priceOf(shop, good);
  }

  public int fills(int shop, int good) {
    if (!now.hasShop(shop) || !isGood(good)) {
      return error(BEYOND);
    }
    return now.fillOf(shop, good);
  }

  public int customer(int wants, int sf, int coin) {
    if (!isCustomer(wants, sf, coin)) {
      return error(BEYOND);
    }
    if (now.customerCount >= MOST_CUSTOMERS) {
      return error(FULL);
    }
    now.welcome(wants, sf, coin);
    return now.customerCount - 1;
  }

  public int customerIs(int customer, int what) {
    if (!now.hasCustomer(customer)) {
      return error(BEYOND);
    }
    Customer one = now.visitors[customer];
    switch (what) {
      case 0:
        return one.wants;
      case 1:
        return one.steps;
      case 2:
        return one.from;
      case 3:
        return one.coin;
      default:
        return error(BEYOND);
    }
  }

  public int leave() {
    if (now.customerCount <= 0) {
      return error(STATE);
    }
    now.customerCount--;
    return now.customerCount;
  }

  // ---- texts

  public int feed(long word, int n) {
    if (!within(n, 1, 8)) {
      return error(BEYOND);
    }
    if (now.tapeCount + n > MOST_BYTES) {
      return error(FULL);
    }
    for (int i = 0; i < n; i++) {
      now.tape[now.tapeCount + i] = (int) (word >>> (8 * i)) & 255;
    }
    now.tapeCount += n;
    return now.tapeCount;
  }

  public int text(int use) {
    if (!isUse(use)) {
      return error(BEYOND);
    }
    int fault = reader.faultIn(now.tape, now.tapeCount, use);
    now.tapeCount = 0;
    if (fault >= 0) {
      return -10 - fault;
    }
    now.texts[use].take(reader.codes, reader.codeCount);
    return 1;
  }

  public int untell(int use) {
    if (!isUse(use)) {
      return error(BEYOND);
    }
    int was = now.texts[use].isTold() ? 1 : 0;
    now.texts[use].length = 0;
    return was;
  }

  // ---- days

  public int morning() {
    now.passMorning();
    return now.things();
  }

  public int visit(int customer) {
    if (!now.hasCustomer(customer)) {
      return error(BEYOND);
    }
    return now.goAlong(customer);
  }

  public int days(int n) {
    int refused = daysRefusal(n);
    if (refused != 0) {
      return error(refused);
    }
    now.pass(n, false);
    return now.sales;
  }

  public int loose(int n) {
    int refused = daysRefusal(n);
    if (refused != 0) {
      return error(refused);
    }
    now.pass(n, true);
    return now.sales;
  }

  public int seed(int v) {
    int was = now.z;
    now.z = v;
    return was;
  }

  // ---- what would be

  public int then(int n, int shop, int what) {
    if (!within(n, 0, 60) || !now.hasShop(shop) || !within(what, IS_KIND, IS_MAY)) {
      return error(BEYOND);
    }
    trial.copyFrom(now);
    trial.pass(n, false);
    return trial.factOf(shop, what);
  }

  public int keep(int shop, int good, int n) {
    if (!now.hasShop(shop) || !isGood(good) || !within(n, 1, 20)) {
      return error(BEYOND);
    }
    int best = 0;
    int most = -MOST_PURSE - 1;
    for (int keeps = 0; keeps <= MOST_KEEPS; keeps++) {
      trial.copyFrom(now);
      trial.shops[shop].keeps[good] = keeps;
      trial.pass(n, false);
      if (trial.shops[shop].purse > most) {
        most = trial.shops[shop].purse;
        best = keeps;
      }
    }
    return best;
  }

  public int range(int shop, int n) {
    if (!now.hasShop(shop) || !within(n, 1, 5)) {
      return error(BEYOND);
    }
    int best = 0;
    int most = -MOST_PURSE - 1;
    for (int goods = 0; goods <= ALL_GOODS; goods++) {
      trial.copyFrom(now);
      trial.shops[shop].keepOnly(goods);
      trial.pass(n, false);
      int purse = trial.shops[shop].purse;
      boolean fewer = Integer.bitCount(goods) < Integer.bitCount(best);
      if (purse > most || purse == most && fewer) {
        most = purse;
        best = goods;
      }
    }
    return best;
  }

  public int turn(int shop, int n) {
    if (!now.hasShop(shop) || !within(n, 1, 20)) {
      return error(BEYOND);
    }
    int best = 0;
    int most = -MOST_PURSE - 1;
    for (int places = 0; places < now.shopCount; places++) {
      trial.copyFrom(now);
      trial.turnFrom(now, places);
      trial.pass(n, false);
      int purse = trial.shops[(shop + places) % now.shopCount].purse;
      if (purse > most) {
        most = purse;
        best = places;
      }
    }
    return best;
  }

  public int out(int shop, int good) {
    if (!now.hasShop(shop) || !isGood(good)) {
      return error(BEYOND);
    }
    int left = now.leftOf(shop);
    if (left < 0 || left == shop || now.shops[left].stock[good] == 0) {
      return error(STATE);
    }
    trial.copyFrom(now);
    trial.allGoAlong();
    int without = trial.shops[shop].purse;
    trial.copyFrom(now);
    trial.buyOut(shop, left, good);
    trial.allGoAlong();
    return trial.shops[shop].purse - without;
  }

  public int joined(int shop, int n) {
    if (!now.hasShop(shop) || !now.hasShop(shop + 1) || !within(n, 1, 20)) {
      return error(BEYOND);
    }
    trial.copyFrom(now);
    trial.pass(n, false);
    int apart = trial.shops[shop].purse + trial.shops[shop + 1].purse;
    trial.copyFrom(now);
    trial.joinNext(shop);
    trial.pass(n, false);
    return trial.shops[shop].purse - apart;
  }

  public int walk(int customer) {
    if (!now.hasCustomer(customer)) {
      return error(BEYOND);
    }
    Customer one = now.visitors[customer];
    int missing = one.wants;
    for (int step = 0; step < now.shopCount && missing != 0; step++) {
      missing &= ~now.mayGoods(now.placeOf(one.from, step));
      if (missing == 0) {
        return step + 1;
      }
    }
    return missing == 0 ? 0 : error(NONE);
  }

  // ---- voices, sheets, images, what is told

  public int voice(int shop, int voice, int x) {
    if (!now.hasShop(shop) || !within(voice, 0, Speaker.VOICES - 1)) {
      return error(BEYOND);
    }
    int answer = speaker.speak(now.shops[shop], shop, voice, x);
    return speaker.parted ? error(PARTED) : answer;
  }

  public int body(int i) {
    if (!within(i, 0, speaker.traceCount - 1)) {
      return error(NONE);
    }
    return speaker.trace[i];
  }

  public int sheet(int sheet, int bits, int n) {
    if (!isSheet(sheet) || bits != 0 && bits != 8 && bits != 16 && bits != 32) {
      return error(BEYOND);
    }
    if (bits != 0 && n < 0) {
      return error(STATE);
    }
    if (bits != 0 && n > Sheet.MOST) {
      return error(BEYOND);
    }
    sheets[sheet].lay(bits, bits == 0 ? 0 : n);
    return 1;
  }

  public int put(int sheet, int i, int v) {
    if (!isSheet(sheet)) {
      return error(BEYOND);
    }
    if (sheets[sheet].isMissing()) {
      return error(NONE);
    }
    if (!within(i, 0, sheets[sheet].length - 1)) {
      return error(BEYOND);
    }
    sheets[sheet].write(i, v);
    return 1;
  }

  public int move(int sheet, int i, int other, int j, int n) {
    if (!isSheet(sheet) || !isSheet(other)) {
      return error(BEYOND);
    }
    Sheet source = sheets[sheet];
    Sheet target = sheets[other];
    if (source.isMissing() || target.isMissing()) {
      return error(NONE);
    }
    if (source.bits != target.bits) {
      return error(WRONG_KIND);
    }
    if (!source.holds(i, n) || !target.holds(j, n)) {
      return error(BEYOND);
    }
    System.arraycopy(source.numbers, i, target.numbers, j, n);
    return n;
  }

  public int customers(int sheet) {
    int refused = sheetRefusal(sheet);
    if (refused != 0) {
      return error(refused);
    }
    int[] numbers = sheets[sheet].numbers;
    int whole = sheets[sheet].length / 3;
    for (int i = 0; i < whole; i++) {
      boolean fits = isCustomer(numbers[3 * i], numbers[3 * i + 1], numbers[3 * i + 2]);
      if (!fits || now.customerCount >= MOST_CUSTOMERS) {
        return i;
      }
      now.welcome(numbers[3 * i], numbers[3 * i + 1], numbers[3 * i + 2]);
    }
    return whole;
  }

  public int judge(int sheet) {
    int refused = sheetRefusal(sheet);
    if (refused != 0) {
      return error(refused);
    }
    int[] numbers = sheets[sheet].numbers;
    int whole = sheets[sheet].length / 2;
    trial.copyFrom(now);
    for (int i = 0; i < whole; i++) {
      int shop = numbers[2 * i];
      int good = numbers[2 * i + 1];
      if (!trial.hasShop(shop) || !isGood(good) || !trial.maySell(shop, good)) {
        return i;
      }
      trial.shops[shop].stock[good]--;
    }
    return whole;
  }

  public int came(int sheet, int shop, int what) {
    if (!isSheet(sheet) || !now.hasShop(shop) || !within(what, 0, 3)) {
      return error(BEYOND);
    }
    if (sheets[sheet].isMissing() || sheets[sheet].length < GOODS) {
      return error(NONE);
    }
    trial.copyFrom(now);
    search.tryAll(trial, shop, sheets[sheet].numbers);
    if (search.sets == 0 && (what == 1 || what == 2)) {
      return error(NONE);
    }
    switch (what) {
      case 0:
        return search.sets;
      case 1:
        return search.least;
      case 2:
        return search.surely;
      default:
        return search.maybe;
    }
  }

  public int image() {
    kept.copyFrom(now);
    images++;
    return images;
  }

  public int restore() {
    if (images == 0) {
      return error(NONE);
    }
    now.copyFrom(kept);
    return now.days;
  }

  public int tell(int v) {
    if (now.waitCount >= MOST_WAITING) {
      return error(FULL);
    }
    now.waiting[now.waitCount] = v;
    now.waitCount++;
    return now.waitCount;
  }

  public int check() {
    int waited = now.waitCount;
    now.waitCount = 0;
    trial.copyFrom(now);
    for (int i = 0; i < waited; i++) {
      trial.pass(1, false);
      if (trial.sales != now.waiting[i]) {
        return 1 + i;
      }
    }
    return 0;
  }

  public int count(int what) {
    switch (what) {
      case 0:
        return now.shopCount;
      case 1:
        return now.customerCount;
      case 2:
        return now.days;
      case 3:
        return now.sales;
      case 4:
        return now.ring;
      case 5:
        return now.law;
      case 6:
        return now.purses();
      case 7:
        return now.tapeCount;
      case 8:
        return now.waitCount;
      case 9:
        return speaker.traceCount;
      case 10:
        return now.z;
      default:
        return isGood(what - 11) ? now.costs[what - 11] : error(BEYOND);
    }
  }

  public int told(int k) {
    return within(k, BEYOND, PARTED) ? errors[k] : error(BEYOND);
  }

  // ---- what the calls share

  private int error(int k) {
    errors[k]++;
    return LOW - k;
  }

  /** The ERROR of DAYS that are to go by, or 0. */
  private int daysRefusal(int n) {
    if (!within(n, 1, 60)) {
      return BEYOND;
    }
    return now.days + n > MOST_DAYS ? STATE : 0;
  }

  /** The ERROR of a call that reads a whole SHEET, or 0. */
  private int sheetRefusal(int sheet) {
    if (!isSheet(sheet)) {
      return BEYOND;
    }
    return sheets[sheet].isMissing() ? NONE : 0;
  }

  private static boolean within(int v, int least, int most) {
    return v >= least && v <= most;
  }

  private static int hold(int v, int least, int most) {
    if (v < least) {
      return least;
    }
    return v > most ? most : v;
  }

  private static boolean isGood(int good) {
    return within(good, 0, GOODS - 1);
  }

  private static boolean isUse(int use) {
    return within(use, 0, USES - 1);
  }

  private static boolean isSheet(int sheet) {
    return within(sheet, 0, SHEETS - 1);
  }

  private static boolean isCustomer(int wants, int sf, int coin) {
    boolean stepsFit = within(sf, 10, 121) && sf % 10 <= 1;
    return within(wants, 0, ALL_GOODS) && stepsFit && within(coin, 0, 999);
  }

  private static boolean isUnder(int kind, int above) {
    int at = kind;
    for (int i = 0; i < KINDS && within(at, 0, KINDS - 1); i++) {
      if (at == above) {
        return true;
      }
      at = ABOVE[at];
    }
    return false;
  }

  /** The greatest number that may be set; -1, which nothing fits, for what can't be set. */
  private static int mostOf(int what) {
    if (what == IS_KIND) {
      return KINDS - 1;
    }
    if (what == IS_M) {
      return 9;
    }
    if (within(what, IS_KEEPS, IS_STOCK - 1)) {
      return MOST_KEEPS;
    }
    return within(what, IS_STOCK, IS_MAY - 1) ? MOST_STOCK : -1;
  }

  private static final class Shop {
    int kind;
    int m;
    int purse;
    final int[] keeps = new int[GOODS];
    final int[] stock = new int[GOODS];
    /** GOODS of which it had some at the end of the latest MORNING, as bits. */
    int had;

    void open(int newKind, int newM) {
      kind = newKind;
      m = newM;
      purse = 0;
      had = 0;
      Arrays.fill(keeps, 0);
      Arrays.fill(stock, 0);
    }

    void copyFrom(Shop other) {
      kind = other.kind;
      m = other.m;
      purse = other.purse;
      had = other.had;
      System.arraycopy(other.keeps, 0, keeps, 0, GOODS);
      System.arraycopy(other.stock, 0, stock, 0, GOODS);
    }

    void change(int what, int v) {
      if (what == IS_KIND) {
        kind = v;
      } else if (what == IS_M) {
        m = v;
      } else if (within(what, IS_KEEPS, IS_STOCK - 1)) {
        keeps[what - IS_KEEPS] = v;
      } else if (within(what, IS_STOCK, IS_MAY - 1)) {
        stock[what - IS_STOCK] = v;
      }
    }

    void earn(int coins) {
      purse = hold(purse + coins, -MOST_PURSE, MOST_PURSE);
    }

    void keepOnly(int goods) {
      for (int g = 0; g < GOODS; g++) {
        if ((goods >> g & 1) == 0) {
          keeps[g] = 0;
        }
      }
    }

    void join(Shop other) {
      earn(other.purse);
      for (int g = 0; g < GOODS; g++) {
        keeps[g] = Math.min(MOST_KEEPS, keeps[g] + other.keeps[g]);
        stock[g] = Math.min(MOST_STOCK, stock[g] + other.stock[g]);
      }
    }

    int things() {
      int sum = 0;
      for (int g = 0; g < GOODS; g++) {
        sum += stock[g];
      }
      return sum;
    }

    int goodsHere() {
      int goods = 0;
      for (int g = 0; g < GOODS; g++) {
        if (stock[g] > 0) {
          goods |= 1 << g;
        }
      }
      return goods;
    }
  }

  private static final class Customer {
    int wants;
    int steps;
    int from;
    int coin;

    void copyFrom(Customer other) {
      wants = other.wants;
      steps = other.steps;
      from = other.from;
      coin = other.coin;
    }
  }

  /** All that an IMAGE keeps. */
  private static final class World {
    final int[] costs = new int[GOODS];
    int ring;
    int law;
    final Shop[] shops = new Shop[MOST_SHOPS];
    int shopCount;
    final Customer[] visitors = new Customer[MOST_CUSTOMERS];
    int customerCount;
    int days;
    int sales;
    int z = 1;
    final Formula[] texts = new Formula[USES];
    final int[] tape = new int[MOST_BYTES];
    int tapeCount;
    final int[] waiting = new int[MOST_WAITING];
    int waitCount;

    World() {
      Arrays.fill(costs, 5);
      for (int i = 0; i < MOST_SHOPS; i++) {
        shops[i] = new Shop();
      }
      for (int i = 0; i < MOST_CUSTOMERS; i++) {
        visitors[i] = new Customer();
      }
      for (int i = 0; i < USES; i++) {
        texts[i] = new Formula();
      }
    }

    void copyFrom(World other) {
      ring = other.ring;
      law = other.law;
      days = other.days;
      sales = other.sales;
      z = other.z;
      shopCount = other.shopCount;
      for (int i = 0; i < shopCount; i++) {
        shops[i].copyFrom(other.shops[i]);
      }
      customerCount = other.customerCount;
      for (int i = 0; i < customerCount; i++) {
        visitors[i].copyFrom(other.visitors[i]);
      }
      for (int i = 0; i < USES; i++) {
        texts[i].take(other.texts[i].codes, other.texts[i].length);
      }
      tapeCount = other.tapeCount;
      System.arraycopy(other.tape, 0, tape, 0, tapeCount);
      waitCount = other.waitCount;
      System.arraycopy(other.waiting, 0, waiting, 0, waitCount);
      System.arraycopy(other.costs, 0, costs, 0, GOODS);
    }

    boolean hasShop(int i) {
      return within(i, 0, shopCount - 1);
    }

    boolean hasCustomer(int i) {
      return within(i, 0, customerCount - 1);
    }

    void welcome(int wants, int sf, int coin) {
      Customer one = visitors[customerCount];
      one.wants = wants;
      one.steps = sf / 10;
      one.from = sf % 10;
      one.coin = coin;
      customerCount++;
    }

    int factOf(int i, int what) {
      Shop one = shops[i];
      if (what == IS_KIND) {
        return one.kind;
      }
      if (what == IS_M) {
        return one.m;
      }
      if (what == IS_PURSE) {
        return one.purse;
      }
      if (what < IS_STOCK) {
        return one.keeps[what - IS_KEEPS];
      }
      return what < IS_MAY ? one.stock[what - IS_STOCK] : mayGoods(i);
    }

    /** The SHOP TO THE LEFT; -1: nobody. */
    int leftOf(int i) {
      if (i > 0) {
        return i - 1;
      }
      return ring == 1 ? shopCount - 1 : -1;
    }

    /** Nobody (-1) lacks all. */
    int stockOf(int i, int good) {
      return i < 0 ? 0 : shops[i].stock[good];
    }

    boolean maySell(int i, int good) {
      int left = leftOf(i);
      if (shops[i].stock[good] == 0 || stockOf(left, good) > 0) {
        return false;
      }
      if (left < 0) {
        return true;
      }
      if (law == 1) {
        return stockOf(leftOf(left), good) == 0;
      }
      return law != 2 || (shops[left].had >> good & 1) == 0;
    }

    int mayGoods(int i) {
      int goods = 0;
      for (int g = 0; g < GOODS; g++) {
        if (maySell(i, g)) {
          goods |= 1 << g;
        }
      }
      return goods;
    }

    int fillOf(int i, int good) {
      Shop one = shops[i];
      int keeps = one.keeps[good];
      int left = stockOf(leftOf(i), good);
      int lacked = left > 0 ? 0 : keeps;
      switch (one.kind) {
        case LACKER:
          return lacked;
        case HALF:
        case BUYER:
          return keeps / 2;
        case DEAR:
          return Math.min(1, keeps);
        case HOARDER:
          return lacked == 0 ? 0 : lacked + one.m;
        case TOLD:
          if (!texts[0].isTold()) {
            return keeps;
          }
          return hold(texts[0].value(keeps, left, good, one.m), 0, MOST_STOCK);
        default:
          return keeps;
      }
    }

    int priceOf(int i, int good) {
      Shop one = shops[i];
      int cost = costs[good];
      switch (one.kind) {
        case HALF:
        case BUYER:
          return 2 * cost + one.m;
        case DEAR:
        case HOARDER:
          return 3 * cost;
        case TOLD:
          if (!texts[1].isTold()) {
            return 2 * cost;
          }
          return hold(texts[1].value(cost, one.stock[good], days, one.m), 0, MOST_PRICE);
        default:
          return 2 * cost;
      }
    }

    void passMorning() {
      for (int i = 0; i < shopCount; i++) {
        fillShop(i);
      }
      for (int i = 0; i < shopCount; i++) {
        int good = goodToBuy(i);
        if (good >= 0) {
          buyOut(i, leftOf(i), good);
        }
      }
      for (int i = 0; i < shopCount; i++) {
        shops[i].had = shops[i].goodsHere();
      }
    }

    void fillShop(int i) {
      Shop one = shops[i];
      for (int g = 0; g < GOODS; g++) {
        int full = fillOf(i, g);
        one.earn(-costs[g] * Math.max(0, full - one.stock[g]));
        one.stock[g] = full;
      }
    }

    /** The GOOD of which a BUYER buys the one TO THE LEFT out; -1: it is no BUYER, or there is none. */
    int goodToBuy(int i) {
      Shop one = shops[i];
      int left = leftOf(i);
      if (one.kind != BUYER || left < 0 || left == i) {
        return -1;
      }
      for (int g = 0; g < GOODS; g++) {
        if (one.stock[g] > 0 && within(shops[left].stock[g], 1, one.m)) {
          return g;
        }
      }
      return -1;
    }

    void buyOut(int buyer, int left, int good) {
      int bought = shops[left].stock[good];
      int paid = bought * priceOf(left, good);
      shops[buyer].earn(-paid);
      shops[left].earn(paid);
      shops[left].stock[good] = 0;
      shops[buyer].stock[good] = Math.min(MOST_STOCK, shops[buyer].stock[good] + bought);
    }

    /** The SHOP that one who comes from an end is in behind so many steps, on round in a RING. */
    int placeOf(int from, int step) {
      int along = shopCount == 0 ? 0 : step % shopCount;
      return from == 0 ? along : shopCount - 1 - along;
    }

    /** A VISIT: what was sold, as a set of GOODS. */
    int goAlong(int customer) {
      Customer one = visitors[customer];
      int steps = ring == 1 && shopCount > 0 ? one.steps : Math.min(one.steps, shopCount);
      int coin = one.coin;
      int got = 0;
      for (int step = 0; step < steps && got != one.wants; step++) {
        int i = placeOf(one.from, step);
        for (int g = 0; g < GOODS; g++) {
          if ((one.wants & ~got & 1 << g) != 0 && maySell(i, g)) {
            int price = priceOf(i, g);
            if (price <= coin) {
              shops[i].stock[g]--;
              shops[i].earn(price);
              coin -= price;
              got |= 1 << g;
            }
          }
        }
      }
      return got;
    }

    void allGoAlong() {
      for (int c = 0; c < customerCount; c++) {
        goAlong(c);
      }
    }

    /** So many DAYS, or LOOSE DAYS. */
    void pass(int n, boolean isLoose) {
      for (int i = 0; i < n; i++) {
        passMorning();
        sales = 0;
        for (int c = 0; c < customerCount; c++) {
          if (!isLoose || draw() % 4 != 0) {
            sales += Integer.bitCount(goAlong(c));
          }
        }
        days++;
      }
    }

    int draw() {
      z = z * 1103515245 + 12345;
      return z >>> 8;
    }

    void turnFrom(World other, int places) {
      for (int i = 0; i < shopCount; i++) {
        shops[(i + places) % shopCount].copyFrom(other.shops[i]);
      }
    }

    void joinNext(int i) {
      shops[i].join(shops[i + 1]);
      for (int j = i + 1; j < shopCount - 1; j++) {
        shops[j].copyFrom(shops[j + 1]);
      }
      shopCount--;
    }

    int things() {
      int sum = 0;
      for (int i = 0; i < shopCount; i++) {
        sum += shops[i].things();
      }
      return sum;
    }

    int purses() {
      int sum = 0;
      for (int i = 0; i < shopCount; i++) {
        sum += shops[i].purse;
      }
      return sum;
    }
  }

  /**
   * A TEXT, worked out from behind: a number is itself, NAME i is -1 - i, and a sign is less than
   * nothing by its byte, so that the three can't be mistaken for one another.
   */
  private static final class Formula {
    final int[] codes = new int[MOST_BYTES];
    int length;
    private final int[] stack = new int[MOST_BYTES];

    boolean isTold() {
      return length > 0;
    }

    void take(int[] newCodes, int newLength) {
      System.arraycopy(newCodes, 0, codes, 0, newLength);
      length = newLength;
    }

    int value(int first, int second, int third, int fourth) {
      int top = 0;
      for (int i = 0; i < length; i++) {
        int code = codes[i];
        if (code >= -4 && top < stack.length) {
          stack[top] = code >= 0 ? code : named(code, first, second, third, fourth);
          top++;
        } else if (code == -'!' && top >= 1) {
          stack[top - 1] = stack[top - 1] == 0 ? 1 : 0;
        } else if (top >= 2) {
          top--;
          stack[top - 1] = worked(-code, stack[top - 1], stack[top]);
        }
      }
      return top > 0 ? stack[top - 1] : 0;
    }

    private static int named(int code, int first, int second, int third, int fourth) {
      switch (code) {
        case -1:
          return first;
        case -2:
          return second;
        case -3:
          return third;
        default:
          return fourth;
      }
    }

    private static int worked(int sign, int a, int b) {
      switch (sign) {
        case '|':
          return a != 0 || b != 0 ? 1 : 0;
        case '&':
          return a != 0 && b != 0 ? 1 : 0;
        case '<':
          return a < b ? 1 : 0;
        case '=':
          return a == b ? 1 : 0;
        case '>':
          return a > b ? 1 : 0;
        case '+':
          return a + b;
        case '-':
          return a - b;
        case '*':
          return a * b;
        case '/':
          return b == 0 ? 0 : a / b;
        case '%':
          return b == 0 ? 0 : a % b;
        default:
          return 0;
      }
    }
  }

  /** Reads THE TAPE byte by byte; signs wait till what stands to their right is read. */
  private static final class Reader {
    private static final String FILLS_NAMES = "klgm";
    private static final String PRICE_NAMES = "csdm";
    private static final int MOST_OPEN = 5;
    private static final int MOST_DIGITS = 4;
    private static final int COMPARES = 3;
    private static final int BINDS_MOST = 6;

    final int[] codes = new int[MOST_BYTES];
    int codeCount;
    private final int[] signs = new int[MOST_BYTES];
    private int signCount;
    /** How many of ! and ( are open, and how many of ( among them. */
    private int open;
    private int brackets;
    private boolean partDue;
    /** How many digits the number has that the latest byte belongs to; 0: it is no digit. */
    private int digits;
    private String names = FILLS_NAMES;

    /** The FAULT; -1: there is none, and codes has the TEXT. */
    int faultIn(int[] bytes, int n, int use) {
      codeCount = 0;
      signCount = 0;
      open = 0;
      brackets = 0;
      partDue = true;
      digits = 0;
      names = use == 0 ? FILLS_NAMES : PRICE_NAMES;
      for (int i = 0; i < n; i++) {
        if (!takes(bytes[i])) {
          return i;
        }
      }
      if (partDue || brackets > 0) {
        return n;
      }
      release(1);
      return -1;
    }

    private boolean takes(int b) {
      if (within(b, '0', '9')) {
        return takesDigit(b - '0');
      }
      digits = 0;
      if (partDue) {
        return b == '!' || b == '(' ? opens(b) : takesName(b);
      }
      return b == ')' ? closes() : takesSign(b);
    }

    private boolean takesDigit(int digit) {
      if (partDue) {
        emit(digit);
        partDue = false;
        digits = 1;
        return true;
      }
      if (digits == 0 || digits == MOST_DIGITS || codeCount == 0) {
        return false;
      }
      codes[codeCount - 1] = codes[codeCount - 1] * 10 + digit;
      digits++;
      return true;
    }

    private boolean takesName(int b) {
      int i = names.indexOf((char) b);
      if (i < 0) {
        return false;
      }
      emit(-1 - i);
      partDue = false;
      return true;
    }

    private boolean opens(int b) {
      if (open == MOST_OPEN) {
        return false;
      }
      open++;
      if (b == '(') {
        brackets++;
      }
      push(b);
      return true;
    }

    private boolean closes() {
      if (brackets == 0) {
        return false;
      }
      release(1);
      signCount--;
      brackets--;
      open--;
      return true;
    }

    private boolean takesSign(int b) {
      int level = levelOf(b);
      if (level == 0) {
        return false;
      }
      // one S is compared with one other: a second comparison finds the first still waiting
      release(level == COMPARES ? level + 1 : level);
      if (level == COMPARES && signCount > 0 && levelOf(signs[signCount - 1]) == COMPARES) {
        return false;
      }
      push(b);
      partDue = true;
      return true;
    }

    /** Signs that wait since the last ( and bind at least so much are worked out ahead of what comes. */
    private void release(int level) {
      for (int i = signCount - 1; i >= 0; i--) {
        int sign = signs[i];
        int binds = sign == '!' ? BINDS_MOST : levelOf(sign);
        if (binds < level) {
          return;
        }
        if (sign == '!') {
          open--;
        }
        emit(-sign);
        signCount--;
      }
    }

    private void emit(int code) {
      if (codeCount < codes.length) {
        codes[codeCount] = code;
        codeCount++;
      }
    }

    private void push(int sign) {
      if (signCount < signs.length) {
        signs[signCount] = sign;
        signCount++;
      }
    }

    /** How tightly a sign between two parts binds; 0: it is none. */
    private static int levelOf(int b) {
      switch (b) {
        case '|':
          return 1;
        case '&':
          return 2;
        case '<':
        case '=':
        case '>':
          return COMPARES;
        case '+':
        case '-':
          return 4;
        case '*':
        case '/':
        case '%':
          return 5;
        default:
          return 0;
      }
    }
  }

  /** VOICES of one SHOP, and THE TRACE of the latest. */
  private static final class Speaker {
    static final int VOICES = 4;
    private static final int SELLS = 0;
    private static final int FILLS = 1;
    private static final int OWES = 2;
    private static final int PARTS = 3;
    /** Far above what the KINDS need: the dearest of them stands six deep. */
    private static final int DEEPEST = 20;
    /** By KINDS the BODIES of sells, fills, owes, parts; 0: the KIND has none of its own. */
    private static final int[] BODIES = {
      10, 11, 12, 13,
      20, 0, 0, 21,
      0, 30, 0, 0,
      0, 0, 40, 0,
      50, 0, 51, 0,
      0, 60, 0, 0,
      70, 71, 0, 0
    };

    final int[] trace = new int[MOST_BODIES];
    int traceCount;
    boolean parted;
    private int kind;
    private int m;
    private int k;

    int speak(Shop one, int number, int voice, int x) {
      kind = one.kind;
      m = one.m;
      k = number;
      traceCount = 0;
      parted = false;
      return say(kind, voice, x, 0);
    }

    /** A VOICE by the BODY that is found from a KIND on upwards. */
    private int say(int from, int voice, int x, int depth) {
      int owner = ownerOf(from, voice);
      if (owner < 0 || depth > DEEPEST) {
        return 0;
      }
      int body = BODIES[owner * VOICES + voice];
      note(body);
      int above = ABOVE[owner];
      int deeper = depth + 1;
      switch (body) {
        case 10:
          return x + k;
        case 11:
          return say(kind, SELLS, x, deeper) * 2;
        case 12:
          return say(kind, FILLS, x, deeper) - m;
        case 13:
          return part(x);
        case 20:
          return say(above, SELLS, x, deeper) - 4;
        case 21:
          return partAndFill(above, x, deeper);
        case 30:
          return 0 - say(above, FILLS, x, deeper);
        case 40:
          return say(above, OWES, x / 2, deeper);
        case 50:
          return say(above, SELLS, x, deeper) * 3;
        case 51:
          return say(above, OWES, x, deeper) ^ k;
        case 60:
          return say(above, FILLS, x + 1, deeper);
        case 70:
          return 2;
        case 71:
          return say(above, FILLS, x, deeper) + m;
        default:
          return 0;
      }
    }

    private int part(int x) {
      int by = m - k;
      if (by == 0) {
        parted = true;
        return 0;
      }
      return x / by;
    }

    /** Behind PARTED nothing begins any more, so THE TRACE ends there. */
    private int partAndFill(int above, int x, int deeper) {
      int parts = say(above, PARTS, x, deeper);
      return parted ? 0 : parts + say(kind, FILLS, 1, deeper);
    }

    private void note(int body) {
      if (traceCount < MOST_BODIES) {
        trace[traceCount] = body;
        traceCount++;
      }
    }

    private static int ownerOf(int from, int voice) {
      int at = from;
      for (int i = 0; i < KINDS && within(at, 0, KINDS - 1); i++) {
        if (BODIES[at * VOICES + voice] != 0) {
          return at;
        }
        at = ABOVE[at];
      }
      return -1;
    }
  }

  private static final class Sheet {
    static final int MOST = 24;

    /** 0: it is missing. */
    int bits;
    int length;
    final int[] numbers = new int[MOST];

    boolean isMissing() {
      return bits == 0;
    }

    void lay(int newBits, int newLength) {
      bits = newBits;
      length = newLength;
      Arrays.fill(numbers, 0);
    }

    void write(int i, int v) {
      if (bits == 8) {
        numbers[i] = (byte) v;
      } else if (bits == 16) {
        numbers[i] = (short) v;
      } else {
        numbers[i] = v;
      }
    }

    boolean holds(int i, int n) {
      return i >= 0 && n >= 0 && n <= length && i <= length - n;
    }
  }

  /** CAME: each set of CUSTOMERS is tried, and what two sets begin with is gone along but once. */
  private static final class Search {
    int sets;
    int least;
    int surely;
    int maybe;
    private int place;
    private final int[] left = new int[GOODS];
    /** STOCK of all ahead of each CUSTOMER that comes. */
    private final int[] stocks = new int[MOST_CUSTOMERS * MOST_SHOPS * GOODS];

    void tryAll(World world, int shop, int[] numbers) {
      place = shop;
      System.arraycopy(numbers, 0, left, 0, GOODS);
      sets = 0;
      least = -1;
      surely = -1;
      maybe = 0;
      tryFrom(world, 0, 0);
    }

    private void tryFrom(World world, int customer, int guests) {
      if (!world.hasCustomer(customer)) {
        judgeSet(world, guests);
        return;
      }
      tryFrom(world, customer + 1, guests);
      for (int i = 0; i < world.shopCount; i++) {
        System.arraycopy(world.shops[i].stock, 0, stocks, startOf(customer, i), GOODS);
      }
      world.goAlong(customer);
      tryFrom(world, customer + 1, guests | 1 << customer);
      for (int i = 0; i < world.shopCount; i++) {
        System.arraycopy(stocks, startOf(customer, i), world.shops[i].stock, 0, GOODS);
      }
    }

    private static int startOf(int customer, int i) {
      return (customer * MOST_SHOPS + i) * GOODS;
    }

    private void judgeSet(World world, int guests) {
      for (int g = 0; g < GOODS; g++) {
        if (world.shops[place].stock[g] != left[g]) {
          return;
        }
      }
      least = sets == 0 ? guests : Math.min(least, guests);
      sets++;
      surely &= guests;
      maybe |= guests;
    }
  }
}
