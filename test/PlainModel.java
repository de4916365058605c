import java.util.ArrayList;
import java.util.List;

/**
 * The document written a second time, in another way than the class: with all of Java, objects made
 * anew for each thought, KINDS as classes. Random runs hold the class against it.
 */
final class PlainModel {
  static final class Wrong extends RuntimeException {
    private static final long serialVersionUID = 1L;
    final int k;

    Wrong(int k) {
      super(null, null, false, false);
      this.k = k;
    }
  }

  /** What all BODIES of a voice() share. */
  static final class Breath {
    final List<Integer> trace = new ArrayList<>();
    int n;
    int m;
  }

  static class Kind {
    int thick(int v, int m) {
      return v;
    }

    int shows(int[] names, int out, int m) {
      return names[out];
    }

    int wears(int h, int w) {
      return h * w;
    }

    int lathers(Breath b, int x) {
      b.trace.add(10);
      return x + b.n;
    }

    int wears(Breath b, int x) {
      b.trace.add(11);
      return lathers(b, x) * 2;
    }

    int shows(Breath b, int x) {
      b.trace.add(12);
      return x - b.m;
    }

    int slips(Breath b, int x) {
      b.trace.add(13);
      int wears = wears(b, x);
      int shows = shows(b, x);
      return wears ^ shows;
    }
  }

  static class Hard extends Kind {
    @Override
    int thick(int v, int m) {
      return super.thick(v, m) + v / 2;
    }

    @Override
    int wears(int h, int w) {
      int more = super.wears(h, w) - 1;
      return more < 0 ? 0 : more;
    }

    @Override
    int lathers(Breath b, int x) {
      b.trace.add(20);
      return super.lathers(b, x) * 3;
    }
  }

  static class Sliver extends Kind {
    @Override
    int thick(int v, int m) {
      return v < 2 ? 1 : v / 2;
    }

    @Override
    int wears(Breath b, int x) {
      b.trace.add(30);
      int wears = super.wears(b, x);
      return wears - shows(b, 1);
    }
  }

  static class Bribed extends Kind {
    @Override
    int shows(int[] names, int out, int m) {
      int name = super.shows(names, out, m);
      return name == m ? -1 : name;
    }

    @Override
    int shows(Breath b, int x) {
      b.trace.add(40);
      return -super.shows(b, x);
    }
  }

  static class Carved extends Hard {
    @Override
    int thick(int v, int m) {
      return super.thick(v, m) + m;
    }

    @Override
    int slips(Breath b, int x) {
      b.trace.add(50);
      int slips = super.slips(b, x);
      return slips - lathers(b, 2);
    }
  }

  static class Pressed extends Sliver {
    @Override
    int shows(int[] names, int out, int m) {
      return out + 1 < names.length ? names[out + 1] : super.shows(names, out, m);
    }

    @Override
    int wears(int h, int w) {
      return super.wears(h, w) + 1;
    }

    @Override
    int wears(Breath b, int x) {
      b.trace.add(60);
      return super.wears(b, x + 1);
    }
  }

  static class Blank extends Bribed {
    @Override
    int shows(int[] names, int out, int m) {
      return out >= 3 ? -1 : super.shows(names, out, m);
    }

    @Override
    int wears(int h, int w) {
      return super.wears(h, w) / 2;
    }

    @Override
    int shows(Breath b, int x) {
      b.trace.add(70);
      return super.shows(b, x) ^ b.n;
    }

    @Override
    int slips(Breath b, int x) {
      b.trace.add(71);
      int wears = wears(b, x);
      return wears - super.slips(b, x);
    }
  }

  static final Kind[] KINDS = {
    new Kind(), new Hard(), new Sliver(), new Bribed(), new Carved(), new Pressed(), new Blank()
  };

  static final class House {
    int hands = 1;
    int water;
  }

  static final class Cake {
    int kind;
    int m;
    int house;
    int worn;
    List<Integer> names = new ArrayList<>();
  }

  static final class World {
    List<House> houses = new ArrayList<>();
    List<Cake> cakes = new ArrayList<>();
    String[] texts = {null, null};
    String tape = "";
    List<Integer> waiting = new ArrayList<>();
    int day;
    int z = 1;

    World copy() {
      World w = new World();
      for (House h : houses) {
        House c = new House();
        c.hands = h.hands;
        c.water = h.water;
        w.houses.add(c);
      }
      for (Cake k : cakes) {
        Cake c = new Cake();
        c.kind = k.kind;
        c.m = k.m;
        c.house = k.house;
        c.worn = k.worn;
        c.names = new ArrayList<>(k.names);
        w.cakes.add(c);
      }
      w.texts = texts.clone();
      w.tape = tape;
      w.waiting = new ArrayList<>(waiting);
      w.day = day;
      w.z = z;
      return w;
    }

    int law(int use, int a, int b, int c) {
      if (use == 0) {
        int v = texts[0] == null ? 5 : value(texts[0], "mkn", a, b, c);
        return v < 1 ? 1 : v > 99 ? 99 : v;
      }
      int v = texts[1] == null ? 1 + a / 3 : value(texts[1], "wmd", a, b, c);
      return v < 0 ? 0 : v > 99 ? 99 : v;
    }

    int thick(Cake c) {
      return KINDS[c.kind].thick(law(0, c.m, c.kind, c.names.size()), c.m);
    }

    boolean gone(Cake c) {
      return c.worn / thick(c) >= c.names.size();
    }

    int shows(Cake c) {
      if (gone(c)) {
        return -1;
      }
      int[] names = c.names.stream().mapToInt(Integer::intValue).toArray();
      return KINDS[c.kind].shows(names, c.worn / thick(c), c.m);
    }

    int wears(Cake c) {
      House h = houses.get(c.house);
      return gone(c) ? 0 : KINDS[c.kind].wears(h.hands, law(1, h.water, c.m, day));
    }

    void pass() {
      for (Cake c : cakes) {
        c.worn = Math.min(9999, c.worn + wears(c));
      }
      day++;
    }

    World behind(int n) {
      World w = copy();
      for (int i = 0; i < n; i++) {
        w.pass();
      }
      return w;
    }

    int gone() {
      return (int) cakes.stream().filter(this::gone).count();
    }

    boolean in(int guest, int house) {
      return cakes.stream().anyMatch(c -> c.house == house && shows(c) == guest);
    }

    int where(int guest) {
      int set = 0;
      for (int h = 0; h < houses.size(); h++) {
        set += in(guest, h) ? 1 << h : 0;
      }
      return set;
    }

    int twice() {
      int set = 0;
      for (int g = 0; g < 10; g++) {
        set += Integer.bitCount(where(g)) >= 2 ? 1 << g : 0;
      }
      return set;
    }
  }

  /** Splits at the sign that binds least and stands last, outside of parentheses. */
  static int value(String s, String names, int a, int b, int c) {
    for (String signs : new String[] {"|", "&", "<=>", "+-", "*/%"}) {
      int deep = 0;
      for (int i = s.length() - 1; i > 0; i--) {
        char ch = s.charAt(i);
        deep += ch == ')' ? 1 : ch == '(' ? -1 : 0;
        if (deep == 0 && signs.indexOf(ch) >= 0) {
          int left = value(s.substring(0, i), names, a, b, c);
          int right = value(s.substring(i + 1), names, a, b, c);
          return join(ch, left, right);
        }
      }
    }
    char first = s.charAt(0);
    if (first == '!') {
      return value(s.substring(1), names, a, b, c) == 0 ? 1 : 0;
    }
    if (first == '(') {
      return value(s.substring(1, s.length() - 1), names, a, b, c);
    }
    int name = names.indexOf(first);
    return name == 0 ? a : name == 1 ? b : name == 2 ? c : Integer.parseInt(s);
  }

  static int join(char sign, int l, int r) {
    boolean so;
    switch (sign) {
      case '+':
        return l + r;
      case '-':
        return l - r;
      case '*':
        return l * r;
      case '/':
        return r == 0 ? 0 : l / r;
      case '%':
        return r == 0 ? 0 : l % r;
      case '|':
        so = !(l == 0 && r == 0);
        break;
      case '&':
        so = !(l == 0 || r == 0);
        break;
      case '<':
        so = l < r;
        break;
      case '=':
        so = l == r;
        break;
      default:
        so = l > r;
    }
    return so ? 1 : 0;
  }

  /** An automaton with a stack of what is open; -1: no FAULT. */
  static int fault(String s, String names) {
    StringBuilder open = new StringBuilder();
    // For each ( that is open, and for outside of all: whether < = > stood since the last | or &.
    List<Boolean> compared = new ArrayList<>(List.of(false));
    boolean wantsOne = true;
    int digits = 0;
    for (int i = 0; i < s.length(); i++) {
      char ch = s.charAt(i);
      boolean digit = ch >= '0' && ch <= '9';
      int last = compared.size() - 1;
      if (wantsOne) {
        if (ch == '!' || ch == '(') {
          if (open.length() == 5) {
            return i;
          }
          open.append(ch);
          if (ch == '(') {
            compared.add(false);
          }
          continue;
        }
        if (!digit && names.indexOf(ch) < 0) {
          return i;
        }
        digits = digit ? 1 : 0;
        wantsOne = false;
        closeNots(open, s, i);
        continue;
      }
      if (digit && digits > 0 && digits < 4) {
        digits++;
        continue;
      }
      digits = 0;
      if (ch == ')' && open.length() > 0) {
        open.setLength(open.length() - 1);
        compared.remove(last);
        closeNots(open, s, i);
      } else if ("<=>".indexOf(ch) >= 0 && !compared.get(last)) {
        compared.set(last, true);
        wantsOne = true;
      } else if ("|&".indexOf(ch) >= 0) {
        compared.set(last, false);
        wantsOne = true;
      } else if ("+-*/%".indexOf(ch) >= 0) {
        wantsOne = true;
      } else {
        return i;
      }
    }
    return wantsOne || open.length() > 0 ? s.length() : -1;
  }

  private static void closeNots(StringBuilder open, String s, int i) {
    while (open.length() > 0 && open.charAt(open.length() - 1) == '!') {
      open.setLength(open.length() - 1);
    }
  }

  World now = new World();
  World kept;
  int images;
  int[] told = new int[6];
  List<Integer> trace = new ArrayList<>();
  int[][] sheets = new int[4][];
  int[] bits = new int[4];

  private static void beyond(boolean is) {
    fail(is, 1);
  }

  private static void fail(boolean is, int k) {
    if (is) {
      throw new Wrong(k);
    }
  }

  private static boolean out(int v, int low, int high) {
    return v < low || v > high;
  }

  private boolean noHouse(int h) {
    return out(h, 0, now.houses.size() - 1);
  }

  private boolean noCake(int c) {
    return out(c, 0, now.cakes.size() - 1);
  }

  public int house(int water) {
    beyond(out(water, 0, 9));
    fail(now.houses.size() == 4, 4);
    House h = new House();
    h.water = water;
    now.houses.add(h);
    return now.houses.size() - 1;
  }

  public int ofHouse(int house, int what) {
    beyond(noHouse(house) || out(what, 0, 3));
    if (what < 2) {
      House h = now.houses.get(house);
      return what == 0 ? h.hands : h.water;
    }
    int set = 0;
    if (what == 2) {
      for (int c = 0; c < now.cakes.size(); c++) {
        set += now.cakes.get(c).house == house ? 1 << c : 0;
      }
      return set;
    }
    for (int g = 0; g < 10; g++) {
      set += now.in(g, house) ? 1 << g : 0;
    }
    return set;
  }

  public int change(int house, int what, int v) {
    beyond(noHouse(house) || out(what, 0, 1) || out(v, 0, 9));
    House h = now.houses.get(house);
    int was = ofHouse(house, what);
    if (what == 0) {
      h.hands = v;
    } else {
      h.water = v;
    }
    return was;
  }

  public int cake(int km, int house) {
    beyond(out(km, 0, 69) || noHouse(house));
    fail(now.cakes.size() == 6, 4);
    Cake c = new Cake();
    c.kind = km / 10;
    c.m = km % 10;
    c.house = house;
    now.cakes.add(c);
    return now.cakes.size() - 1;
  }

  public int ofCake(int cake, int what) {
    beyond(noCake(cake) || out(what, 0, 8));
    Cake c = now.cakes.get(cake);
    int[] all = {
      c.kind, c.m, c.house, c.names.size(), c.worn, now.thick(c), now.shows(c),
      now.gone(c) ? 1 : 0, now.wears(c)
    };
    return all[what];
  }

  public int layer(int cake, int name) {
    beyond(noCake(cake) || out(name, -1, 9));
    List<Integer> names = now.cakes.get(cake).names;
    fail(names.size() == 8, 4);
    names.add(name);
    return names.size();
  }

  public int named(int cake, int i) {
    beyond(noCake(cake) || out(i, 0, now.cakes.get(cake).names.size() - 1));
    return now.cakes.get(cake).names.get(i);
  }

  public int shift(int cake, int what, int v) {
    beyond(noCake(cake) || out(what, 0, 1) || (what == 0 ? noHouse(v) : out(v, 0, 9999)));
    Cake c = now.cakes.get(cake);
    int was = what == 0 ? c.house : c.worn;
    if (what == 0) {
      c.house = v;
    } else {
      c.worn = v;
    }
    return was;
  }

  public int press(int cake, int other) {
    beyond(noCake(cake) || noCake(other) || cake == other);
    Cake from = now.cakes.get(cake);
    fail(now.gone(from), 3);
    List<Integer> to = now.cakes.get(other).names;
    List<Integer> left = from.names.subList(from.worn / now.thick(from), from.names.size());
    int came = Math.min(left.size(), 8 - to.size());
    to.addAll(new ArrayList<>(left.subList(0, came)));
    from.names = new ArrayList<>();
    return came;
  }

  public int become(int cake, int km) {
    beyond(noCake(cake) || out(km, 0, 69));
    Cake c = now.cakes.get(cake);
    int was = c.kind;
    c.kind = km / 10;
    c.m = km % 10;
    return was;
  }

  public int as(int cake, int kind) {
    beyond(noCake(cake) || out(kind, 0, 6));
    Cake c = now.cakes.get(cake);
    fail(!KINDS[kind].getClass().isInstance(KINDS[c.kind]), 5);
    return c.m;
  }

  public int feed(long word, int n) {
    beyond(out(n, 1, 8));
    fail(now.tape.length() + n > 50, 4);
    for (int i = 0; i < n; i++) {
      now.tape += (char) (word & 255);
      word >>= 8;
    }
    return now.tape.length();
  }

  public int text(int use) {
    beyond(out(use, 0, 1));
    String s = now.tape;
    now.tape = "";
    int fault = fault(s, use == 0 ? "mkn" : "wmd");
    if (fault >= 0) {
      return -10 - fault;
    }
    now.texts[use] = s;
    return 1;
  }

  public int law(int use, int a, int b, int c) {
    beyond(out(use, 0, 1));
    return now.law(use, a, b, c);
  }

  public int days(int n) {
    beyond(out(n, 1, 99));
    fail(now.day + n > 9999, 3);
    now = now.behind(n);
    return now.gone();
  }

  private int draw() {
    now.z = now.z * 1103515245 + 12345;
    return now.z >>> 8;
  }

  public int loose(int n) {
    beyond(out(n, 1, 40));
    fail(now.day + n > 9999, 3);
    for (int i = 0; i < n; i++) {
      if (!now.houses.isEmpty()) {
        int house = draw() % now.houses.size();
        now.houses.get(house).hands = draw() % 10;
      }
      now.pass();
    }
    return now.gone();
  }

  public int where(int guest) {
    beyond(out(guest, 0, 9));
    return now.where(guest);
  }

  public int twice() {
    return now.twice();
  }

  public int then(int n, int cake, int what) {
    beyond(out(n, 0, 99) || noCake(cake) || out(what, 0, 1));
    World w = now.behind(n);
    return what == 0 ? w.shows(w.cakes.get(cake)) : w.cakes.get(cake).worn;
  }

  public int comes(int guest, int house) {
    beyond(out(guest, 0, 9) || noHouse(house));
    World w = now.copy();
    for (int n = 0; n <= 99; n++, w.pass()) {
      if (w.in(guest, house)) {
        return n;
      }
    }
    throw new Wrong(2);
  }

  public int clash(int what) {
    beyond(out(what, 0, 1));
    World w = now.copy();
    for (int n = 0; n <= 99; n++, w.pass()) {
      for (int g = 0; g < 10; g++) {
        if (Integer.bitCount(w.where(g)) > 1) {
          return what == 0 ? n : g;
        }
      }
    }
    throw new Wrong(2);
  }

  private static boolean everIn(World start, int guest, int houses, int n) {
    World w = start.copy();
    for (int i = 0; i < n; i++, w.pass()) {
      if ((w.where(guest) & houses) != 0) {
        return true;
      }
    }
    return false;
  }

  public int spares(int guest, int n) {
    beyond(out(guest, 0, 9) || out(n, 0, 30));
    int best = -1;
    for (int set = 0; set < 1 << now.houses.size(); set++) {
      World w = now.copy();
      for (int h = 0; h < w.houses.size(); h++) {
        if ((set >> h & 1) == 1) {
          w.houses.get(h).hands = 0;
        }
      }
      boolean fewer = best < 0 || Integer.bitCount(set) < Integer.bitCount(best);
      if (fewer && !everIn(w, guest, 15, n)) {
        best = set;
      }
    }
    fail(best < 0, 2);
    return best;
  }

  public int hurry(int guest, int house, int n) {
    beyond(out(guest, 0, 9) || noHouse(house) || out(n, 0, 30));
    for (int more = 0; more < 10; more++) {
      World w = now.copy();
      w.houses.get(house).hands += more;
      if (everIn(w, guest, 1 << house, n)) {
        return more;
      }
    }
    throw new Wrong(2);
  }

  public int fits(int sheet) {
    int[] row = row(sheet);
    int set = 0;
    for (int c = 0; c < now.cakes.size(); c++) {
      World w = now.copy();
      boolean fits = true;
      for (int i = 0; i < row.length; i++, w.pass()) {
        fits = fits && w.shows(w.cakes.get(c)) == row[i];
      }
      set += fits ? 1 << c : 0;
    }
    return set;
  }

  public int howFar(int cake, int now, int then, int n, int what) {
    beyond(noCake(cake) || out(now, -1, 9) || out(then, -1, 9) || out(n, 0, 20) || out(what, 0, 1));
    List<Integer> found = new ArrayList<>();
    World w = this.now.copy();
    Cake c = w.cakes.get(cake);
    w.cakes = new ArrayList<>(List.of(c));
    for (int worn = 0; worn < 1000; worn++) {
      c.worn = worn;
      if (w.shows(c) == now) {
        World later = w.behind(n);
        if (later.shows(later.cakes.get(0)) == then) {
          found.add(worn);
        }
      }
    }
    fail(what == 1 && found.isEmpty(), 2);
    return what == 0 ? found.size() : found.get(0);
  }

  public int lends(int house) {
    beyond(noHouse(house));
    int cakes = now.cakes.size();
    int houses = now.houses.size();
    for (int row = 0; row < 1296; row++) {
      int[] of = {row / 216, row / 36 % 6, row / 6 % 6, row % 6};
      boolean good = true;
      for (int h = 0; h < 4; h++) {
        good = good && (h < houses ? of[h] < cakes : of[h] == 0);
        for (int g = 0; g < h && good && h < houses; g++) {
          int here = now.shows(now.cakes.get(of[h]));
          good = of[g] != of[h] && (here < 0 || here != now.shows(now.cakes.get(of[g])));
        }
      }
      if (good) {
        return of[house];
      }
    }
    throw new Wrong(2);
  }

  public int odds(int guest, int house, int n, int part) {
    beyond(out(guest, 0, 9) || noHouse(house) || out(n, 0, 99) || out(part, 0, 1));
    int times = 0;
    for (int water = 0; water < 10; water++) {
      World w = now.copy();
      w.houses.get(house).water = water;
      times += w.behind(n).in(guest, house) ? 1 : 0;
    }
    int[] above = {0, 1, 1, 3, 2, 1, 3, 7, 4, 9, 1};
    int[] below = {1, 10, 5, 10, 5, 2, 5, 10, 5, 10, 1};
    return part == 0 ? above[times] : below[times];
  }

  public int seed(int v) {
    int was = now.z;
    now.z = v;
    return was;
  }

  public int voice(int cake, int act, int x) {
    beyond(noCake(cake) || out(act, 0, 3));
    Cake c = now.cakes.get(cake);
    Breath b = new Breath();
    b.n = cake;
    b.m = c.m;
    Kind k = KINDS[c.kind];
    int answer = act == 0 ? k.lathers(b, x) : act == 1 ? k.wears(b, x)
        : act == 2 ? k.shows(b, x) : k.slips(b, x);
    trace = b.trace;
    return answer;
  }

  public int trace(int i) {
    fail(out(i, 0, Math.min(40, trace.size()) - 1), 2);
    return trace.get(i);
  }

  public int sheet(int sheet, int bits, int n) {
    beyond(out(sheet, 0, 3) || !List.of(0, 8, 16, 32).contains(bits));
    if (bits == 0) {
      sheets[sheet] = null;
      return 1;
    }
    fail(n < 0, 3);
    beyond(n > 40);
    sheets[sheet] = new int[n];
    this.bits[sheet] = bits;
    return 1;
  }

  private int[] row(int sheet) {
    beyond(out(sheet, 0, 3));
    fail(sheets[sheet] == null, 2);
    return sheets[sheet];
  }

  public int put(int sheet, int i, int v) {
    int[] row = row(sheet);
    beyond(out(i, 0, row.length - 1));
    row[i] = v << (32 - bits[sheet]) >> (32 - bits[sheet]);
    return 1;
  }

  public int move(int sheet, int i, int other, int j, int n) {
    beyond(out(sheet, 0, 3) || out(other, 0, 3));
    int[] from = row(sheet).clone();
    int[] to = row(other);
    fail(bits[sheet] != bits[other], 5);
    beyond(n < 0 || i < 0 || j < 0);
    beyond((long) i + n > from.length || (long) j + n > to.length);
    for (int k = 0; k < n; k++) {
      to[j + k] = from[i + k];
    }
    return n;
  }

  public int worns(int sheet) {
    int[] row = row(sheet);
    int i = 0;
    while (i < row.length && i < now.cakes.size() && !out(row[i], 0, 9999)) {
      now.cakes.get(i).worn = row[i];
      i++;
    }
    return i;
  }

  public int judge(int sheet) {
    int[] row = row(sheet);
    for (int i = 0; i < Math.max(row.length, now.cakes.size()); i++) {
      if (i >= row.length || noCake(i) || now.shows(now.cakes.get(i)) != row[i]) {
        return i;
      }
    }
    return -1;
  }

  public int image() {
    kept = now.copy();
    return ++images;
  }

  public int restore() {
    fail(kept == null, 2);
    now = kept.copy();
    return now.day;
  }

  public int tell(int v) {
    fail(now.waiting.size() == 20, 4);
    now.waiting.add(v);
    return now.waiting.size();
  }

  public int check() {
    List<Integer> waiting = now.waiting;
    now.waiting = new ArrayList<>();
    for (int i = 0; i < waiting.size(); i++) {
      if (waiting.get(i) != now.behind(i + 1).gone()) {
        return i + 1;
      }
    }
    return 0;
  }

  public int count(int what) {
    beyond(out(what, 0, 9));
    int[] all = {
      now.houses.size(), now.cakes.size(), now.day, now.gone(),
      now.houses.stream().mapToInt(h -> h.hands).sum(),
      now.cakes.stream().mapToInt(c -> c.worn).sum(),
      now.tape.length(), now.waiting.size(), Math.min(40, trace.size()), now.z
    };
    return all[what];
  }

  public int told(int k) {
    beyond(out(k, 1, 5));
    return told[k];
  }
}
