/**
 * Soap with the names in. What each call promises stands in ../shared/DOC.md; words in capitals
 * here are that document's. Every row is reached through at() and setAt(), which look at the index
 * first, and every object of a row through an accessor that never gives null.
 */
public final class SoapNames {
  private static final int LOW = -1000000000;
  private static final int BEYOND = 1;
  private static final int NONE = 2;
  private static final int STATE = 3;
  private static final int FULL = 4;
  private static final int KIND = 5;

  private static final int GUESTS = 10;
  private static final int MOST_HOUSES = 4;
  private static final int MOST_CAKES = 6;
  private static final int MOST_LAYERS = 8;
  private static final int MOST_WORN = 9999;
  private static final int LAST_DAY = 9999;
  private static final int MOST_BYTES = 50;
  private static final int MOST_WAITING = 20;
  private static final int SHEETS = 4;
  private static final int MOST_NUMBERS = 40;
  private static final int MOST_TRACED = 40;
  private static final int FARTHEST = 99;
  private static final int HOW_FAR_DAYS = 20;
  private static final int HOW_FAR_WORNS = 1000;
  private static final int NOBODY = -1;

  private static final int CAKE = 0;
  private static final int HARD = 1;
  private static final int SLIVER = 2;
  private static final int BRIBED = 3;
  private static final int CARVED = 4;
  private static final int PRESSED = 5;
  private static final int BLANK = 6;
  private static final int[] KIND_ABOVE = {-1, CAKE, CAKE, CAKE, HARD, SLIVER, BRIBED};

  private static final int THICK = 0;
  private static final int WEAR = 1;
  private static final int[] THICK_NAMES = {'m', 'k', 'n'};
  private static final int[] WEAR_NAMES = {'w', 'm', 'd'};

  private final World now = new World();
  private final World kept = new World();
  // What would be is tried out on this one: a fresh copy of `now` for each try.
  private final World thought = new World();
  private final Reader reader = new Reader();
  private final Voice voice = new Voice();
  private final Sheet[] sheets = new Sheet[SHEETS];
  private final Sheet missingSheet = new Sheet();
  private final int[] lent = new int[MOST_HOUSES];
  private final int[] errors = new int[KIND + 1];
  private int images;

  public SoapNames() {
    for (int i = 0; i < sheets.length; i++) {
      sheets[i] = new Sheet();
    }
  }

  // ---- houses, cakes

  public int house(int water) {
    if (!within(water, 0, 9)) {
      return error(BEYOND);
    }
    if (now.houseCount >= MOST_HOUSES) {
      return error(FULL);
    }
    House h = now.houseAt(now.houseCount);
    h.hands = 1;
    h.water = water;
    now.houseCount++;
    return now.houseCount - 1;
  }

  public int ofHouse(int house, int what) {
    if (!isHouse(house)) {
      return error(BEYOND);
    }
    switch (what) {
      case 0:
        return now.houseAt(house).hands;
      case 1:
        return now.houseAt(house).water;
      case 2:
        return now.cakesIn(house);
      case 3:
        return now.guestsIn(house);
      default:
        return error(BEYOND);
    }
  }

  public int change(int house, int what, int v) {
    if (!isHouse(house) || !within(what, 0, 1) || !within(v, 0, 9)) {
      return error(BEYOND);
    }
    House h = now.houseAt(house);
    int was = what == 0 ? h.hands : h.water;
    if (what == 0) {
      h.hands = v;
    } else {
      h.water = v;
    }
    return was;
  }

  public int cake(int km, int house) {
    if (!isKindAndNumber(km) || !isHouse(house)) {
      return error(BEYOND);
    }
    if (now.cakeCount >= MOST_CAKES) {
      return error(FULL);
    }
    Cake c = now.cakeAt(now.cakeCount);
    c.makeNew(km / 10, km % 10, house);
    now.cakeCount++;
    now.measureCakes();
    return now.cakeCount - 1;
  }

  public int ofCake(int cake, int what) {
    if (!isCake(cake)) {
      return error(BEYOND);
    }
    Cake c = now.cakeAt(cake);
    switch (what) {
      case 0:
        return c.kind;
      case 1:
        return c.m;
      case 2:
        return c.home;
      case 3:
        return c.layers;
      case 4:
        return c.worn;
      case 5:
        return c.thick;
      case 6:
        return c.shown();
      case 7:
        return c.isGone() ? 1 : 0;
      case 8:
        return c.isGone() ? 0 : now.wearOf(c);
      default:
        return error(BEYOND);
    }
  }

  public int layer(int cake, int name) {
    if (!isCake(cake) || !isGuestOrNobody(name)) {
      return error(BEYOND);
    }
    Cake c = now.cakeAt(cake);
    if (c.layers >= MOST_LAYERS) {
      return error(FULL);
    }
    c.addLayer(name);
    now.measureCakes();
    return c.layers;
  }

  public int named(int cake, int i) {
    if (!isCake(cake) || !within(i, 0, now.cakeAt(cake).layers - 1)) {
      return error(BEYOND);
    }
    return now.cakeAt(cake).nameOf(i);
  }

  public int shift(int cake, int what, int v) {
    if (!isCake(cake) || !within(what, 0, 1)) {
      return error(BEYOND);
    }
    if (what == 0 ? !isHouse(v) : !within(v, 0, MOST_WORN)) {
      return error(BEYOND);
    }
    Cake c = now.cakeAt(cake);
    int was = what == 0 ? c.home : c.worn;
    if (what == 0) {
      c.home = v;
    } else {
      c.worn = v;
    }
    return was;
  }

  public int press(int cake, int other) {
    if (!isCake(cake) || !isCake(other) || cake == other) {
      return error(BEYOND);
    }
    Cake from = now.cakeAt(cake);
    if (from.isGone()) {
      return error(STATE);
    }
    int came = from.pressOnto(now.cakeAt(other));
    now.measureCakes();
    return came;
  }

  public int become(int cake, int km) {
    if (!isCake(cake) || !isKindAndNumber(km)) {
      return error(BEYOND);
    }
    Cake c = now.cakeAt(cake);
    int was = c.kind;
    c.kind = km / 10;
    c.m = km % 10;
    now.measureCakes();
    return was;
  }

  public int as(int cake, int kind) {
    if (!isCake(cake) || !within(kind, CAKE, BLANK)) {
      return error(BEYOND);
    }
    Cake c = now.cakeAt(cake);
    return c.isOfKind(kind) ? c.m : error(KIND);
  }

  // ---- texts

  public int feed(long word, int n) {
    if (!within(n, 1, 8)) {
      return error(BEYOND);
    }
    if (now.tapeLength > MOST_BYTES - n) {
      return error(FULL);
    }
    for (int i = 0; i < n; i++) {
      setAt(now.tape, now.tapeLength + i, (int) (word >>> (8 * i)) & 255);
    }
    now.tapeLength += n;
    return now.tapeLength;
  }

  public int text(int use) {
    if (!within(use, THICK, WEAR)) {
      return error(BEYOND);
    }
    int fault = reader.faultOf(now.tape, now.tapeLength, use == THICK ? THICK_NAMES : WEAR_NAMES);
    now.tapeLength = 0;
    if (fault >= 0) {
      return -10 - fault;
    }
    now.textOf(use).copyFrom(reader.found);
    now.measureCakes();
    return 1;
  }

  public int law(int use, int a, int b, int c) {
    if (!within(use, THICK, WEAR)) {
      return error(BEYOND);
    }
    return now.given(use, a, b, c);
  }

  // ---- days

  public int days(int n) {
    if (!within(n, 1, 99)) {
      return error(BEYOND);
    }
    if (now.day > LAST_DAY - n) {
      return error(STATE);
    }
    now.passDays(n);
    return now.goneCakes();
  }

  public int loose(int n) {
    if (!within(n, 1, 40)) {
      return error(BEYOND);
    }
    if (now.day > LAST_DAY - n) {
      return error(STATE);
    }
    for (int i = 0; i < n; i++) {
      now.drawHands();
      now.passDay();
    }
    return now.goneCakes();
  }

  public int where(int guest) {
    return isGuest(guest) ? now.housesOf(guest) : error(BEYOND);
  }

  public int twice() {
    return now.dueTwice();
  }

  // ---- what would be

  public int then(int n, int cake, int what) {
    if (!within(n, 0, FARTHEST) || !isCake(cake) || !within(what, 0, 1)) {
      return error(BEYOND);
    }
    thought.copyFrom(now);
    thought.passDays(n);
    Cake c = thought.cakeAt(cake);
    return what == 0 ? c.shown() : c.worn;
  }

  public int comes(int guest, int house) {
    if (!isGuest(guest) || !isHouse(house)) {
      return error(BEYOND);
    }
    thought.copyFrom(now);
    int first = thought.firstDayIn(guest, house, FARTHEST + 1);
    return first < 0 ? error(NONE) : first;
  }

  public int clash(int what) {
    if (!within(what, 0, 1)) {
      return error(BEYOND);
    }
    thought.copyFrom(now);
    for (int day = 0; day <= FARTHEST; day++) {
      int due = thought.dueTwice();
      if (due != 0) {
        return what == 0 ? day : Integer.numberOfTrailingZeros(due);
      }
      thought.passDay();
    }
    return error(NONE);
  }

  public int spares(int guest, int n) {
    if (!isGuest(guest) || !within(n, 0, 30)) {
      return error(BEYOND);
    }
    for (int houses = 0; houses <= now.houseCount; houses++) {
      for (int set = 0; set < 1 << now.houseCount; set++) {
        if (Integer.bitCount(set) == houses && staysAway(guest, n, set)) {
          return set;
        }
      }
    }
    return error(NONE);
  }

  public int hurry(int guest, int house, int n) {
    if (!isGuest(guest) || !isHouse(house) || !within(n, 0, 30)) {
      return error(BEYOND);
    }
    for (int more = 0; more <= 9; more++) {
      thought.copyFrom(now);
      thought.houseAt(house).hands += more;
      if (thought.firstDayIn(guest, house, n) >= 0) {
        return more;
      }
    }
    return error(NONE);
  }

  public int fits(int sheet) {
    if (!isSheet(sheet)) {
      return error(BEYOND);
    }
    Sheet s = sheetAt(sheet);
    if (s.isMissing()) {
      return error(NONE);
    }
    thought.copyFrom(now);
    int fitting = (1 << now.cakeCount) - 1;
    for (int i = 0; i < s.size && fitting != 0; i++) {
      fitting &= thought.cakesShowing(s.numberAt(i));
      thought.passDay();
    }
    return fitting;
  }

  public int howFar(int cake, int now, int then, int n, int what) {
    if (!isCake(cake) || !isGuestOrNobody(now) || !isGuestOrNobody(then)) {
      return error(BEYOND);
    }
    if (!within(n, 0, HOW_FAR_DAYS) || !within(what, 0, 1)) {
      return error(BEYOND);
    }
    thought.copyFrom(this.now);
    Cake c = thought.cakeAt(cake);
    int more = thought.wearOfDays(c, n);
    int many = 0;
    int least = -1;
    for (int worn = 0; worn < HOW_FAR_WORNS; worn++) {
      if (c.wouldShow(worn, now) && c.wouldShow(worn + more, then)) {
        least = many == 0 ? worn : least;
        many++;
      }
    }
    if (what == 0) {
      return many;
    }
    return many == 0 ? error(NONE) : least;
  }

  public int lends(int house) {
    if (!isHouse(house)) {
      return error(BEYOND);
    }
    return lendFrom(0, 0, 0) ? at(lent, house) : error(NONE);
  }

  public int odds(int guest, int house, int n, int part) {
    if (!isGuest(guest) || !isHouse(house) || !within(n, 0, FARTHEST) || !within(part, 0, 1)) {
      return error(BEYOND);
    }
    int times = 0;
    for (int water = 0; water <= 9; water++) {
      thought.copyFrom(now);
      thought.houseAt(house).water = water;
      thought.passDays(n);
      if (thought.isIn(guest, house)) {
        times++;
      }
    }
    return partInLowestTerms(times, part == 0 ? times : 10);
  }

  // ---- draws, voices, sheets, images, what is told

  public int seed(int v) {
    int was = now.z;
    now.z = v;
    return was;
  }

  public int voice(int cake, int act, int x) {
    if (!isCake(cake) || !within(act, 0, 3)) {
      return error(BEYOND);
    }
    return voice.speak(cake, now.cakeAt(cake), act, x);
  }

  public int trace(int i) {
    return within(i, 0, voice.traced - 1) ? at(voice.bodies, i) : error(NONE);
  }

  public int sheet(int sheet, int bits, int n) {
    if (!isSheet(sheet) || bits != 0 && bits != 8 && bits != 16 && bits != 32) {
      return error(BEYOND);
    }
    if (bits != 0 && n < 0) {
      return error(STATE);
    }
    if (bits != 0 && n > MOST_NUMBERS) {
      return error(BEYOND);
    }
    sheetAt(sheet).makeNew(bits, bits == 0 ? 0 : n);
    return 1;
  }

  public int put(int sheet, int i, int v) {
    if (!isSheet(sheet)) {
      return error(BEYOND);
    }
    Sheet s = sheetAt(sheet);
    if (s.isMissing()) {
      return error(NONE);
    }
    if (!within(i, 0, s.size - 1)) {
      return error(BEYOND);
    }
    s.setNumber(i, v);
    return 1;
  }

  public int move(int sheet, int i, int other, int j, int n) {
    if (!isSheet(sheet) || !isSheet(other)) {
      return error(BEYOND);
    }
    Sheet from = sheetAt(sheet);
    Sheet to = sheetAt(other);
    if (from.isMissing() || to.isMissing()) {
      return error(NONE);
    }
    if (from.bits != to.bits) {
      return error(KIND);
    }
    if (!from.hasPart(i, n) || !to.hasPart(j, n)) {
      return error(BEYOND);
    }
    copyPart(from.numbers, i, to.numbers, j, n);
    return n;
  }

  public int worns(int sheet) {
    if (!isSheet(sheet)) {
      return error(BEYOND);
    }
    Sheet s = sheetAt(sheet);
    if (s.isMissing()) {
      return error(NONE);
    }
    int many = Math.min(s.size, now.cakeCount);
    for (int i = 0; i < many; i++) {
      if (!within(s.numberAt(i), 0, MOST_WORN)) {
        return i;
      }
      now.cakeAt(i).worn = s.numberAt(i);
    }
    return many;
  }

  public int judge(int sheet) {
    if (!isSheet(sheet)) {
      return error(BEYOND);
    }
    Sheet s = sheetAt(sheet);
    if (s.isMissing()) {
      return error(NONE);
    }
    int both = Math.min(s.size, now.cakeCount);
    for (int i = 0; i < both; i++) {
      if (s.numberAt(i) != now.cakeAt(i).shown()) {
        return i;
      }
    }
    return s.size == now.cakeCount ? -1 : both;
  }

  public int image() {
    kept.copyFrom(now);
    images++;
    return images;
  }

  public int restore() {
    if (images == 0) {
      return error(NONE);
    }
    now.copyFrom(kept);
    return now.day;
  }

  public int tell(int v) {
    if (now.waitingCount >= MOST_WAITING) {
      return error(FULL);
    }
    setAt(now.waiting, now.waitingCount, v);
    now.waitingCount++;
    return now.waitingCount;
  }

  public int check() {
    thought.copyFrom(now);
    now.waitingCount = 0;
    for (int i = 0; i < thought.waitingCount; i++) {
      thought.passDay();
      if (at(thought.waiting, i) != thought.goneCakes()) {
        return 1 + i;
      }
    }
    return 0;
  }

  public int count(int what) {
    switch (what) {
      case 0:
        return now.houseCount;
      case 1:
        return now.cakeCount;
      case 2:
        return now.day;
      case 3:
        return now.goneCakes();
      case 4:
        return now.allHands();
      case 5:
        return now.allWorn();
      case 6:
        return now.tapeLength;
      case 7:
        return now.waitingCount;
      case 8:
        return voice.traced;
      case 9:
        return now.z;
      default:
        return error(BEYOND);
    }
  }

  public int told(int k) {
    return within(k, BEYOND, KIND) ? at(errors, k) : error(BEYOND);
  }

  // ---- what the calls share

  private int error(int k) {
    setAt(errors, k, at(errors, k) + 1);
    return LOW - k;
  }

  private boolean isHouse(int house) {
    return within(house, 0, now.houseCount - 1);
  }

  private boolean isCake(int cake) {
    return within(cake, 0, now.cakeCount - 1);
  }

  private static boolean isSheet(int sheet) {
    return within(sheet, 0, SHEETS - 1);
  }

  private static boolean isGuest(int guest) {
    return within(guest, 0, GUESTS - 1);
  }

  private static boolean isGuestOrNobody(int guest) {
    return within(guest, NOBODY, GUESTS - 1);
  }

  private static boolean isKindAndNumber(int km) {
    return within(km, 0, 10 * BLANK + 9);
  }

  private Sheet sheetAt(int i) {
    if (i < 0 || i >= sheets.length || sheets[i] == null) {
      return missingSheet;
    }
    return sheets[i];
  }

  /** Whether the GUEST is IN no HOUSE on any of n DAYS, if nobody washes in the HOUSES of the set. */
  private boolean staysAway(int guest, int n, int set) {
    thought.copyFrom(now);
    thought.stillHands(set);
    for (int day = 0; day < n; day++) {
      // Every cake is in some HOUSE.
      if (thought.cakesShowing(guest) != 0) {
        return false;
      }
      thought.passDay();
    }
    return true;
  }

  /** Lends cakes to this HOUSE and all behind it; nothing already taken, nobody already shown. */
  private boolean lendFrom(int house, int taken, int shown) {
    if (house >= now.houseCount || house >= MOST_HOUSES) {
      return true;
    }
    for (int c = 0; c < now.cakeCount; c++) {
      int guest = guestBit(now.cakeAt(c).shown());
      if ((taken & 1 << c) == 0 && (shown & guest) == 0) {
        setAt(lent, house, c);
        if (lendFrom(house + 1, taken | 1 << c, shown | guest)) {
          return true;
        }
      }
    }
    return false;
  }

  /** Above or below the line of times by 10, cut by what divides both. */
  private static int partInLowestTerms(int times, int part) {
    for (int d = 10; d > 1; d--) {
      if (10 % d == 0 && times % d == 0) {
        return part / d;
      }
    }
    return part;
  }

  /** The set of one GUEST; nobody is the empty set. */
  private static int guestBit(int guest) {
    return guest >= 0 && guest < GUESTS ? 1 << guest : 0;
  }

  private static boolean within(int v, int low, int high) {
    return v >= low && v <= high;
  }

  private static int held(int v, int low, int high) {
    return Math.max(low, Math.min(high, v));
  }

  private static int at(int[] row, int i) {
    return i >= 0 && i < row.length ? row[i] : 0;
  }

  private static void setAt(int[] row, int i, int v) {
    if (i >= 0 && i < row.length) {
      row[i] = v;
    }
  }

  private static void copyPart(int[] from, int i, int[] to, int j, int n) {
    if (n >= 0 && i >= 0 && j >= 0 && n <= from.length - i && n <= to.length - j) {
      System.arraycopy(from, i, to, j, n);
    }
  }

  private static void copyRow(int[] from, int[] to) {
    copyPart(from, 0, to, 0, from.length);
  }

  private static final class House {
    private int hands;
    private int water;

    private void copyFrom(House h) {
      hands = h.hands;
      water = h.water;
    }
  }

  private static final class Cake {
    private final int[] names = new int[MOST_LAYERS];
    private int kind;
    private int m;
    private int home;
    private int layers;
    private int worn;
    // Kept, because what is thought asks for it many times: see World.measureCakes().
    private int thick = 1;

    private void makeNew(int newKind, int newM, int newHome) {
      kind = newKind;
      m = newM;
      home = newHome;
      layers = 0;
      worn = 0;
    }

    private void copyFrom(Cake c) {
      copyRow(c.names, names);
      kind = c.kind;
      m = c.m;
      home = c.home;
      layers = c.layers;
      worn = c.worn;
      thick = c.thick;
    }

    private void addLayer(int name) {
      if (layers < MOST_LAYERS) {
        setAt(names, layers, name);
        layers++;
      }
    }

    private int nameOf(int layer) {
      return at(names, layer);
    }

    private int layerOut() {
      return thick < 1 ? layers : worn / thick;
    }

    private boolean isGone() {
      return layerOut() >= layers;
    }

    private boolean isOfKind(int wanted) {
      int k = kind;
      for (int i = 0; i < KIND_ABOVE.length && k >= 0; i++) {
        if (k == wanted) {
          return true;
        }
        k = at(KIND_ABOVE, k);
      }
      return false;
    }

    private void measure(int v) {
      switch (kind) {
        case HARD:
          thick = v + v / 2;
          break;
        case CARVED:
          thick = v + v / 2 + m;
          break;
        case SLIVER:
        case PRESSED:
          thick = Math.max(1, v / 2);
          break;
        default:
          thick = v;
      }
    }

    private int shown() {
      int out = layerOut();
      if (out >= layers) {
        return NOBODY;
      }
      switch (kind) {
        case BRIBED:
          return unbribed(nameOf(out));
        case BLANK:
          return out >= 3 ? NOBODY : unbribed(nameOf(out));
        case PRESSED:
          return nameOf(Math.min(out + 1, layers - 1));
        default:
          return nameOf(out);
      }
    }

    private boolean wouldShow(int wornThen, int guest) {
      worn = wornThen;
      return shown() == guest;
    }

    private int unbribed(int name) {
      return name == m ? NOBODY : name;
    }

    private int wearWith(int hands, int w) {
      switch (kind) {
        case HARD:
        case CARVED:
          return Math.max(0, hands * w - 1);
        case PRESSED:
          return hands * w + 1;
        case BLANK:
          return hands * w / 2;
        default:
          return hands * w;
      }
    }

    private void wearBy(int v) {
      worn = held(worn + v, 0, MOST_WORN);
    }

    /** What is not worn off comes behind the other one's LAYERS; what has no room is lost. */
    private int pressOnto(Cake other) {
      int had = other.layers;
      for (int i = layerOut(); i < layers; i++) {
        other.addLayer(nameOf(i));
      }
      layers = 0;
      return other.layers - had;
    }
  }

  /** All that an IMAGE keeps. */
  private static final class World {
    private final House[] houses = new House[MOST_HOUSES];
    private final Cake[] cakes = new Cake[MOST_CAKES];
    private final House noHouse = new House();
    private final Cake noCake = new Cake();
    private final Text thickText = new Text();
    private final Text wearText = new Text();
    private final int[] tape = new int[MOST_BYTES];
    private final int[] waiting = new int[MOST_WAITING];
    private int houseCount;
    private int cakeCount;
    private int tapeLength;
    private int waitingCount;
    private int day;
    private int z = 1;

    private World() {
      for (int i = 0; i < houses.length; i++) {
        houses[i] = new House();
      }
      for (int i = 0; i < cakes.length; i++) {
        cakes[i] = new Cake();
      }
    }

    private House houseAt(int i) {
      if (i < 0 || i >= houses.length || houses[i] == null) {
        return noHouse;
      }
      return houses[i];
    }

    private Cake cakeAt(int i) {
      if (i < 0 || i >= cakes.length || cakes[i] == null) {
        return noCake;
      }
      return cakes[i];
    }

    private Text textOf(int use) {
      return use == THICK ? thickText : wearText;
    }

    private void copyFrom(World w) {
      for (int i = 0; i < w.houseCount; i++) {
        houseAt(i).copyFrom(w.houseAt(i));
      }
      for (int i = 0; i < w.cakeCount; i++) {
        cakeAt(i).copyFrom(w.cakeAt(i));
      }
      thickText.copyFrom(w.thickText);
      wearText.copyFrom(w.wearText);
      copyRow(w.tape, tape);
      copyRow(w.waiting, waiting);
      houseCount = w.houseCount;
      cakeCount = w.cakeCount;
      tapeLength = w.tapeLength;
      waitingCount = w.waitingCount;
      day = w.day;
      z = w.z;
    }

    private int given(int use, int a, int b, int c) {
      if (use == THICK) {
        return held(thickText.isEmpty() ? 5 : thickText.valueWith(a, b, c), 1, 99);
      }
      return held(wearText.isEmpty() ? 1 + a / 3 : wearText.valueWith(a, b, c), 0, 99);
    }

    /** By how much a cake that isn't GONE is WORN on this DAY. */
    private int wearOf(Cake c) {
      House h = houseAt(c.home);
      return c.wearWith(h.hands, given(WEAR, h.water, c.m, day));
    }

    /** To be done after all that THICK hangs on: KINDS, m, LAYERS, the TEXT. */
    private void measureCakes() {
      for (int i = 0; i < cakeCount; i++) {
        Cake c = cakeAt(i);
        c.measure(given(THICK, c.m, c.kind, c.layers));
      }
    }

    private void passDay() {
      for (int i = 0; i < cakeCount; i++) {
        Cake c = cakeAt(i);
        if (!c.isGone()) {
          c.wearBy(wearOf(c));
        }
      }
      day++;
    }

    /** How much n DAYS bring, GONE or not: what is GONE stays so, however far it is WORN on. */
    private int wearOfDays(Cake c, int n) {
      int sum = 0;
      for (int i = 0; i < n; i++) {
        sum += wearOf(c);
        day++;
      }
      return sum;
    }

    private void passDays(int n) {
      for (int i = 0; i < n; i++) {
        passDay();
      }
    }

    private int draw() {
      z = z * 1103515245 + 12345;
      return z >>> 8;
    }

    private void drawHands() {
      if (houseCount > 0) {
        House h = houseAt(draw() % houseCount);
        h.hands = draw() % 10;
      }
    }

    private void stillHands(int set) {
      for (int i = 0; i < houseCount; i++) {
        if ((set & 1 << i) != 0) {
          houseAt(i).hands = 0;
        }
      }
    }

    private int cakesIn(int house) {
      int set = 0;
      for (int i = 0; i < cakeCount; i++) {
        if (cakeAt(i).home == house) {
          set |= 1 << i;
        }
      }
      return set;
    }

    private int cakesShowing(int guest) {
      int set = 0;
      for (int i = 0; i < cakeCount; i++) {
        if (cakeAt(i).shown() == guest) {
          set |= 1 << i;
        }
      }
      return set;
    }

    private int guestsIn(int house) {
      int set = 0;
      for (int i = 0; i < cakeCount; i++) {
        Cake c = cakeAt(i);
        if (c.home == house) {
          set |= guestBit(c.shown());
        }
      }
      return set;
    }

    private boolean isIn(int guest, int house) {
      return (guestsIn(house) & guestBit(guest)) != 0;
    }

    private int housesOf(int guest) {
      int set = 0;
      for (int i = 0; i < houseCount; i++) {
        if (isIn(guest, i)) {
          set |= 1 << i;
        }
      }
      return set;
    }

    private int dueTwice() {
      int once = 0;
      int twice = 0;
      for (int i = 0; i < houseCount; i++) {
        int guests = guestsIn(i);
        twice |= once & guests;
        once |= guests;
      }
      return twice;
    }

    /** The first of n DAYS (now, and behind 1, 2, ..) on which a GUEST is IN a HOUSE; -1: none. */
    private int firstDayIn(int guest, int house, int n) {
      for (int i = 0; i < n; i++) {
        if (isIn(guest, house)) {
          return i;
        }
        passDay();
      }
      return -1;
    }

    private int goneCakes() {
      int many = 0;
      for (int i = 0; i < cakeCount; i++) {
        many += cakeAt(i).isGone() ? 1 : 0;
      }
      return many;
    }

    private int allHands() {
      int sum = 0;
      for (int i = 0; i < houseCount; i++) {
        sum += houseAt(i).hands;
      }
      return sum;
    }

    private int allWorn() {
      int sum = 0;
      for (int i = 0; i < cakeCount; i++) {
        sum += cakeAt(i).worn;
      }
      return sum;
    }
  }

  /**
   * A TEXT as steps, what is joined ahead of its sign: a number is itself, the NAMES are -1 to -3,
   * a sign is less than these (its byte, negative).
   */
  private static final class Text {
    private final int[] steps = new int[MOST_BYTES];
    private final int[] stack = new int[MOST_BYTES];
    private int length;

    private boolean isEmpty() {
      return length == 0;
    }

    private void add(int step) {
      setAt(steps, length, step);
      length++;
    }

    private void copyFrom(Text t) {
      copyRow(t.steps, steps);
      length = t.length;
    }

    private int valueWith(int a, int b, int c) {
      int top = -1;
      for (int i = 0; i < length; i++) {
        int step = at(steps, i);
        if (step >= -3) {
          top++;
          setAt(stack, top, step >= 0 ? step : step == -1 ? a : step == -2 ? b : c);
        } else if (step == -'!') {
          setAt(stack, top, at(stack, top) == 0 ? 1 : 0);
        } else {
          top--;
          setAt(stack, top, joined(-step, at(stack, top), at(stack, top + 1)));
        }
      }
      return at(stack, top);
    }

    private static int joined(int sign, int a, int b) {
      switch (sign) {
        case '|':
          return a != 0 || b != 0 ? 1 : 0;
        case '&':
          return a != 0 && b != 0 ? 1 : 0;
        case '<':
          return a < b ? 1 : 0;
        case '=':
          return a == b ? 1 : 0;
        case '>':
          return a > b ? 1 : 0;
        case '+':
          return a + b;
        case '-':
          return a - b;
        case '*':
          return a * b;
        case '/':
          return b == 0 ? 0 : a / b;
        default:
          return b == 0 ? 0 : a % b;
      }
    }
  }

  /** Reads THE TAPE as a TEXT. One byte always tells how to go on, so the FAULT is where it stops. */
  private static final class Reader {
    private static final int OR = 0;
    private static final int AND = 1;
    private static final int COMPARISON = 2;
    private static final int SUM = 3;
    private static final int PRODUCT = 4;
    private static final int NO_SIGN = -1;
    private static final int THE_END = -1;
    private static final int MOST_OPEN = 5;
    private static final int MOST_DIGITS = 4;

    private final Text found = new Text();
    private final int[] tape = new int[MOST_BYTES];
    private final int[] names = new int[3];
    private int length;
    private int place;
    private int fault;

    /** The FAULT, or -1: then the TEXT stands in `found`. */
    private int faultOf(int[] bytes, int many, int[] namesOfUse) {
      copyRow(bytes, tape);
      copyRow(namesOfUse, names);
      length = many;
      place = 0;
      fault = -1;
      found.length = 0;
      readChain(OR, 0);
      if (place < length) {
        failHere();
      }
      return fault;
    }

    private int next() {
      return place < length ? at(tape, place) : THE_END;
    }

    private void failHere() {
      if (fault < 0) {
        fault = place;
      }
    }

    private static int rankOf(int sign) {
      switch (sign) {
        case '|':
          return OR;
        case '&':
          return AND;
        case '<':
        case '=':
        case '>':
          return COMPARISON;
        case '+':
        case '-':
          return SUM;
        case '*':
        case '/':
        case '%':
          return PRODUCT;
        default:
          return NO_SIGN;
      }
    }

    /** T, A, B, S, P of the document by rank; rank and open go up only to their bounds. */
    private void readChain(int rank, int open) {
      if (rank > PRODUCT) {
        readOne(open);
        return;
      }
      readChain(rank + 1, open);
      int most = rank == COMPARISON ? 1 : MOST_BYTES;
      for (int i = 0; i < most && fault < 0 && rankOf(next()) == rank; i++) {
        int sign = next();
        place++;
        readChain(rank + 1, open);
        found.add(-sign);
      }
    }

    /** Q of the document. */
    private void readOne(int open) {
      int sign = next();
      if (within(sign, '0', '9')) {
        readNumber();
      } else if (sign == '!' || sign == '(') {
        readOpened(sign, open + 1);
      } else {
        readName(sign);
      }
    }

    private void readOpened(int sign, int open) {
      if (open > MOST_OPEN) {
        failHere();
        return;
      }
      place++;
      if (sign == '!') {
        readOne(open);
        found.add(-sign);
        return;
      }
      readChain(OR, open);
      if (next() == ')') {
        place++;
      } else {
        failHere();
      }
    }

    private void readNumber() {
      int v = 0;
      for (int i = 0; i < MOST_DIGITS && within(next(), '0', '9'); i++) {
        v = 10 * v + next() - '0';
        place++;
      }
      found.add(v);
    }

    private void readName(int sign) {
      for (int i = 0; i < names.length; i++) {
        if (at(names, i) == sign) {
          found.add(-1 - i);
          place++;
          return;
        }
      }
      failHere();
    }
  }

  /** The VOICES, and THE TRACE of the latest one. */
  private static final class Voice {
    private static final int LATHERS = 0;
    private static final int WEARS = 1;
    private static final int SHOWS = 2;
    private static final int SLIPS = 3;
    private static final int ACTS = 4;
    private static final int DEEPEST = 40;
    // By KINDS, and in each by acts; 0: the KIND has no such BODY.
    private static final int[] BODIES = {
      10, 11, 12, 13,
      20, 0, 0, 0,
      0, 30, 0, 0,
      0, 0, 40, 0,
      0, 0, 0, 50,
      0, 60, 0, 0,
      0, 0, 70, 71
    };

    private final int[] bodies = new int[MOST_TRACED];
    private int traced;
    private int number;
    private int m;
    private int kind;

    private int speak(int cakeNumber, Cake c, int act, int x) {
      traced = 0;
      number = cakeNumber;
      m = c.m;
      kind = c.kind;
      return said(act, kind, x, 0);
    }

    private static int kindWithBody(int act, int from) {
      int k = from;
      for (int i = 0; i < KIND_ABOVE.length && k > CAKE && at(BODIES, ACTS * k + act) == 0; i++) {
        k = at(KIND_ABOVE, k);
      }
      return k;
    }

    private void begin(int body) {
      if (traced < MOST_TRACED) {
        setAt(bodies, traced, body);
        traced++;
      }
    }

    /** What the act's BODY of a KIND, or of the next one above that has one, says. */
    private int said(int act, int from, int x, int depth) {
      if (depth > DEEPEST) {
        return 0;
      }
      int owner = kindWithBody(act, from);
      int above = at(KIND_ABOVE, owner);
      int body = at(BODIES, ACTS * owner + act);
      int d = depth + 1;
      begin(body);
      switch (body) {
        case 10:
          return x + number;
        case 11:
          return said(LATHERS, kind, x, d) * 2;
        case 12:
          return x - m;
        case 13:
          return said(WEARS, kind, x, d) ^ said(SHOWS, kind, x, d);
        case 20:
          return said(LATHERS, above, x, d) * 3;
        case 30:
          return said(WEARS, above, x, d) - said(SHOWS, kind, 1, d);
        case 40:
          return -said(SHOWS, above, x, d);
        case 50:
          return said(SLIPS, above, x, d) - said(LATHERS, kind, 2, d);
        case 60:
          return said(WEARS, above, x + 1, d);
        case 70:
          return said(SHOWS, above, x, d) ^ number;
        case 71:
          return said(WEARS, kind, x, d) - said(SLIPS, above, x, d);
        default:
          return 0;
      }
    }
  }

  /** A row of numbers; of 0 bits it is missing. */
  private static final class Sheet {
    private final int[] numbers = new int[MOST_NUMBERS];
    private int bits;
    private int size;

    private void makeNew(int newBits, int newSize) {
      bits = newBits;
      size = newSize;
      for (int i = 0; i < numbers.length; i++) {
        setAt(numbers, i, 0);
      }
    }

    private boolean isMissing() {
      return bits == 0;
    }

    private boolean hasPart(int i, int n) {
      return n >= 0 && i >= 0 && n <= size - i;
    }

    private int numberAt(int i) {
      return at(numbers, i);
    }

    private void setNumber(int i, int v) {
      setAt(numbers, i, bits == 8 ? (byte) v : bits == 16 ? (short) v : v);
    }
  }
}
