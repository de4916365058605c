/**
 * Promises 1 to 42: the sentences of the document that name what is empty, full, first, last, what
 * goes round, and which ERROR is asked ahead of which; the bounds of arguments are in BoundsTest.
 */
public final class EdgesTest {
  public static void main(String[] args) {
    nothingYet();
    orderOfErrors();
    thick();
    shows();
    wears();
    layers();
    press();
    tape();
    firstBytes();
    nextBytes();
    digitsAndOpened();
    held();
    roundTexts();
    all50();
    lastDay();
    sets();
    clash();
    thoughtPastTheLastDay();
    thirtyDays();
    howFar();
    lends();
    odds();
    roundVoices();
    roundDraws();
    sheets();
    images();
    waiting();
    Due.end();
  }

  private static SoapNames houses(int many) {
    SoapNames x = new SoapNames();
    for (int i = 0; i < many; i++) {
      x.house(0);
    }
    return x;
  }

  private static void nothingYet() {
    SoapNames x = new SoapNames();
    Due.due("1: THE TAPE is empty", x.text(0), -10);
    Due.due("1: no number waits", x.check(), 0);
    Due.due("1: no GUEST is IN a HOUSE", x.where(0) + x.where(9), 0);
    Due.due("1: nobody is DUE TWICE", x.twice(), 0);
    Due.due("1: a cake has no HOUSE to be in", x.cake(0, 0), Due.BEYOND);
    Due.due("1: no IMAGE ahead", x.image(), 1);
    Due.due("16: no cakes, none is GONE", x.days(1) + x.days(99), 0);
    Due.due("17: no HOUSES, no draws", x.loose(40) * 100 + x.count(9), 1);
    Due.due("21: no HOUSES", x.comes(0, 0), Due.BEYOND);
    Due.due("22: no HOUSES", x.clash(0), Due.NONE);
    Due.due("23: no HOUSES", x.spares(0, 30), 0);
    Due.due("27: no HOUSES", x.lends(0), Due.BEYOND);
    x.house(0);
    Due.due("3: no cakes in it", x.ofHouse(0, 2), 0);
    Due.due("3: no GUESTS in it", x.ofHouse(0, 3), 0);
    Due.due("23: no cakes", x.spares(0, 30), 0);
    Due.due("24: no cakes", x.hurry(0, 0, 30), Due.NONE);
    Due.due("27: no cakes", x.lends(0), Due.NONE);
    Due.due("28: no cakes", x.odds(0, 0, 0, 0) * 10 + x.odds(0, 0, 0, 1), 1);
    x.sheet(0, 8, 0);
    Due.due("25: no cakes", x.fits(0), 0);
    Due.due("35: no cakes, no numbers", x.worns(0), 0);
    x.sheet(0, 8, 40);
    Due.due("35: no cakes", x.worns(0), 0);
    x.cake(0, 0);
    Due.due("5: no LAYERS at first", x.ofCake(0, 3), 0);
    Due.due("5: WORN is 0 at first", x.ofCake(0, 4), 0);
    Due.due("6: without LAYERS it is GONE", x.ofCake(0, 7), 1);
    Due.due("6: without LAYERS it SHOWS nobody", x.ofCake(0, 6), -1);
    Due.due("6: without LAYERS it isn't WORN", x.ofCake(0, 8), 0);
    Due.due("16: without LAYERS it is GONE", x.days(1) * 10 + x.ofCake(0, 4), 10);
  }

  private static void orderOfErrors() {
    SoapNames x = houses(4);
    Due.cake(x, 0, 0, 1, 2, 3, 4, 5, 6, 7, 8);
    Due.cake(x, 0, 0);
    Due.due("2: BEYOND ahead of FULL", x.house(-1), Due.BEYOND);
    Due.due("7: BEYOND of the NAME ahead of FULL", x.layer(0, -2), Due.BEYOND);
    Due.due("10: BEYOND of the other ahead of STATE", x.press(1, 2), Due.BEYOND);
    Due.due("10: BEYOND of one and the same ahead of STATE", x.press(1, 1), Due.BEYOND);
    Due.due("12: BEYOND ahead of KIND", x.as(0, 7), Due.BEYOND);
    Due.due("22: BEYOND ahead of NONE", x.clash(2), Due.BEYOND);
    Due.due("23: BEYOND of n ahead of NONE", x.spares(1, 31), Due.BEYOND);
    Due.due("24: BEYOND of n ahead of NONE", x.hurry(9, 0, 31), Due.BEYOND);
    Due.due("26: BEYOND of n ahead of NONE", x.howFar(0, 9, 9, 21, 1), Due.BEYOND);
    Due.due("26: BEYOND of what ahead of NONE", x.howFar(0, 9, 9, 1, 2), Due.BEYOND);
    Due.due("27: BEYOND ahead of NONE", x.lends(4), Due.BEYOND);
    Due.due("32: BEYOND of bits ahead of STATE", x.sheet(0, 12, -1), Due.BEYOND);
    Due.due("32: BEYOND of the SHEET ahead of STATE", x.sheet(-1, 8, -1), Due.BEYOND);
    Due.due("32: n doesn't matter, if it is missing", x.sheet(0, 0, -1), 1);
    Due.due("33: BEYOND of the SHEET ahead of NONE", x.put(4, -1, 0), Due.BEYOND);
    Due.due("33: NONE ahead of BEYOND of the number", x.put(0, 40, 0), Due.NONE);
    Due.due("34: BEYOND of the other ahead of NONE", x.move(0, 0, 4, 0, 0), Due.BEYOND);
    x.sheet(1, 8, 3);
    x.sheet(2, 16, 3);
    Due.due("34: NONE ahead of KIND", x.move(0, 0, 2, 0, 0), Due.NONE);
    Due.due("34: NONE ahead of BEYOND", x.move(1, 9, 0, 9, -9), Due.NONE);
    Due.due("34: KIND ahead of BEYOND", x.move(1, -1, 2, -1, -1), Due.KIND);
    for (int i = 0; i < 101; i++) {
      x.days(99);
    }
    Due.due("16: BEYOND ahead of STATE", x.days(0), Due.BEYOND);
    Due.due("17: BEYOND ahead of STATE", x.loose(0), Due.BEYOND);
    Due.feed(x, "12345678123456781234567812345678123456781234567812");
    Due.due("13: BEYOND ahead of FULL", x.feed(0, 0), Due.BEYOND);
    for (int i = 0; i < 4; i++) {
      x.cake(0, 0);
    }
    Due.due("5: BEYOND of the HOUSE ahead of FULL", x.cake(0, 4), Due.BEYOND);
    Due.due("5: BEYOND of km ahead of FULL", x.cake(-1, 0), Due.BEYOND);
  }

  /** What THICK is, by what the TEXT gives: of KINDS 0 to 6, m being 9. */
  private static void thick() {
    int[] given = {-5, 0, 1, 2, 3, 4, 98, 99, 100, 9999};
    int[] held = {1, 1, 1, 2, 3, 4, 98, 99, 99, 99};
    int[] hard = {1, 1, 1, 3, 4, 6, 147, 148, 148, 148};
    int[] sliver = {1, 1, 1, 1, 1, 2, 49, 49, 49, 49};
    SoapNames x = houses(1);
    x.cake(0, 0);
    for (int i = 0; i < given.length; i++) {
      Due.text(x, 0, given[i] < 0 ? "m-m-" + -given[i] : "" + given[i]);
      int[] due = {held[i], hard[i], sliver[i], held[i], hard[i] + 9, sliver[i], held[i]};
      for (int kind = 0; kind <= 6; kind++) {
        x.become(0, 10 * kind + 9);
        Due.due("6: THICK by " + given[i] + ", KIND " + kind, x.ofCake(0, 5), due[kind]);
      }
      x.become(0, 40);
      Due.due("6: THICK by " + given[i] + ", m is 0", x.ofCake(0, 5), hard[i]);
    }
  }

  private static void shows() {
    SoapNames x = houses(1);
    Due.cake(x, 51, 0, 1);
    Due.due("6: PRESSED, no LAYER behind", x.ofCake(0, 6), 1);
    x.layer(0, -1);
    Due.due("6: PRESSED, none is behind", x.ofCake(0, 6), -1);
    x.shift(0, 1, 3);
    Due.due("6: PRESSED, the end of the last", x.ofCake(0, 6) * 10 + x.ofCake(0, 7), -10);
    x.shift(0, 1, 4);
    Due.due("6: PRESSED, GONE", x.ofCake(0, 6) * 10 + x.ofCake(0, 7), -9);
    x.become(0, 1);
    x.shift(0, 1, 5);
    Due.due("6: none is out, but it isn't GONE", x.ofCake(0, 6) * 10 + x.ofCake(0, 7), -10);
    SoapNames y = houses(1);
    Due.cake(y, 30, 0, 0, 1, -1);
    Due.due("6: BRIBED by GUEST 0", y.ofCake(0, 6), -1);
    y.become(0, 31);
    Due.due("6: BRIBED by another GUEST", y.ofCake(0, 6), 0);
    y.become(0, 60);
    Due.due("6: BLANK, bribed", y.ofCake(0, 6), -1);
    SoapNames z = houses(1);
    Due.cake(z, 69, 0, 1, 2, 3, 4, 5, 6, 7, 8);
    int[] due = {1, 2, 3, -1, -1, -1, -1, -1, -1};
    for (int i = 0; i < due.length; i++) {
      z.shift(0, 1, 5 * i);
      Due.due("6: BLANK, LAYER " + i, z.ofCake(0, 6), due[i]);
      Due.due("6: BLANK, GONE at " + i, z.ofCake(0, 7), i < 8 ? 0 : 1);
    }
    z.shift(0, 1, 9999);
    Due.due("6: GONE as WORN as can be", z.ofCake(0, 6) * 10 + z.ofCake(0, 7), -9);
    Due.text(z, 0, "99");
    z.become(0, 49);
    z.shift(0, 1, 8 * 157 - 1);
    Due.due("6: the thickest, not GONE", z.ofCake(0, 6) * 10 + z.ofCake(0, 7), 80);
    z.shift(0, 1, 8 * 157);
    Due.due("6: the thickest, GONE", z.ofCake(0, 6) * 10 + z.ofCake(0, 7), -9);
  }

  private static void wears() {
    int[][] due = {
      {0, 1, 2, 3, 81},
      {0, 0, 1, 2, 80},
      {0, 1, 2, 3, 81},
      {0, 1, 2, 3, 81},
      {0, 0, 1, 2, 80},
      {1, 2, 3, 4, 82},
      {0, 0, 1, 1, 40}
    };
    int[] hands = {0, 1, 2, 3, 9};
    SoapNames x = houses(1);
    Due.cake(x, 0, 0, 1);
    for (int kind = 0; kind <= 6; kind++) {
      x.become(0, 10 * kind);
      for (int i = 0; i < hands.length; i++) {
        x.change(0, 0, hands[i]);
        Due.text(x, 1, hands[i] == 9 ? "9" : "1");
        x.shift(0, 1, 0);
        Due.due("6: WORN more, KIND " + kind + ", HANDS " + hands[i], x.ofCake(0, 8), due[kind][i]);
        Due.due("20: WORN more, KIND " + kind + ", HANDS " + hands[i], x.then(1, 0, 1), due[kind][i]);
        x.days(1);
        Due.due("16: WORN more, KIND " + kind + ", HANDS " + hands[i], x.ofCake(0, 4), due[kind][i]);
      }
    }
    SoapNames y = houses(2);
    y.change(1, 0, 9);
    Due.text(y, 1, "99");
    Due.cake(y, 0, 1, 1);
    y.shift(0, 1, 4);
    Due.due("16: the last DAY before it is GONE", y.ofCake(0, 8), 891);
    Due.due("16: GONE", y.days(1) * 10000 + y.ofCake(0, 4), 10895);
    Due.due("16: GONE, it is WORN no more", y.days(1) * 10000 + y.ofCake(0, 4), 10895);
    y.shift(0, 1, 9999);
    Due.due("16: held", y.days(1) * 10000 + y.ofCake(0, 4), 19999);
    Due.due("9: 10000 is refused", y.shift(0, 1, 10000), Due.BEYOND);
  }

  private static void layers() {
    SoapNames x = houses(1);
    Due.cake(x, 0, 0, 1);
    x.shift(0, 1, 5);
    Due.due("7: it is GONE", x.ofCake(0, 7), 1);
    Due.due("7: behind the others", x.layer(0, 2), 2);
    Due.due("7: it isn't GONE then", x.ofCake(0, 7), 0);
    Due.due("7: it SHOWS the new LAYER", x.ofCake(0, 6), 2);
    for (int i = 3; i <= 8; i++) {
      Due.due("7: there is room", x.layer(0, i), i);
    }
    Due.due("7: it has 8", x.layer(0, 9), Due.FULL);
    for (int i = 0; i < 8; i++) {
      Due.due("8: LAYER " + i, x.named(0, i), i + 1);
    }
    Due.due("8: no LAYER 8", x.named(0, 8), Due.BEYOND);
    Due.due("7: it has 8, still", x.layer(0, -1), Due.FULL);
  }

  /** A cake of so many LAYERS, and one of others with so many; the first one is WORN. */
  private static SoapNames two(int first, int other, int worn) {
    SoapNames x = houses(1);
    x.cake(0, 0);
    x.cake(0, 0);
    for (int i = 0; i < first; i++) {
      x.layer(0, i == 1 ? -1 : i);
    }
    for (int i = 0; i < other; i++) {
      x.layer(1, 9);
    }
    x.shift(0, 1, worn);
    return x;
  }

  private static void press() {
    Due.due("10: none is worn off", two(8, 0, 4).press(0, 1), 8);
    Due.due("10: one is worn off", two(8, 0, 5).press(0, 1), 7);
    Due.due("10: one is left", two(8, 0, 35).press(0, 1), 1);
    Due.due("10: its last bit", two(8, 0, 39).press(0, 1), 1);
    Due.due("10: GONE", two(8, 0, 40).press(0, 1), Due.STATE);
    Due.due("10: as much room", two(3, 5, 0).press(0, 1), 3);
    Due.due("10: room for one less", two(3, 6, 0).press(0, 1), 2);
    Due.due("10: room for one", two(8, 7, 0).press(0, 1), 1);
    Due.due("10: room for none", two(8, 8, 0).press(0, 1), 0);
    SoapNames x = two(8, 8, 0);
    x.press(0, 1);
    Due.due("10: GONE, though none came", x.ofCake(0, 7) * 10 + x.ofCake(0, 3), 10);
    Due.due("10: no more than 8", x.ofCake(1, 3), 8);
    x.layer(0, 4);
    Due.due("7: a cake that was pressed gets a LAYER", x.ofCake(0, 3) * 10 + x.named(0, 0), 14);
    SoapNames y = two(3, 6, 0);
    y.press(0, 1);
    Due.due("10: the first of them", y.named(1, 6), 0);
    Due.due("10: none, too", y.named(1, 7), -1);
    SoapNames z = two(2, 1, 0);
    z.shift(1, 1, 5);
    Due.due("10: onto one that is GONE", z.ofCake(1, 7) * 10 + z.press(0, 1), 12);
    Due.due("10: it isn't GONE then", z.ofCake(1, 7) * 10 + z.ofCake(1, 6), 0);
  }

  private static void tape() {
    for (int n = 1; n <= 8; n++) {
      SoapNames x = new SoapNames();
      int many = 0;
      while (many + 1 <= 50 - n) {
        many = x.feed('1', 1);
      }
      Due.due("13: " + many + " and " + n, x.feed(0, n), 50);
      Due.due("13: nothing more", x.feed(0, 1), Due.FULL);
      x.text(0);
      while (x.count(6) < 51 - n) {
        x.feed('1', 1);
      }
      Due.due("13: one too many of " + n, x.feed(0, n), Due.FULL);
      Due.due("13: it stays", x.count(6), 51 - n);
    }
    SoapNames x = new SoapNames();
    Due.due("13: bytes of 0 are bytes", x.feed(0, 8), 8);
    Due.due("14: the first of them", x.text(0), -10);
    Due.due("14: THE TAPE is empty then", x.text(1), -10);
    x.feed(0x6d6d6d6d6d6d2b6dL, 3);
    Due.due("13: the n lowest", x.text(0), 1);
    x.feed(0x3938373635343332L, 4);
    x.text(0);
    Due.due("13: the lowest first", x.law(0, 0, 0, 0), 99);
    Due.feed(x, "(m=2345)+50");
    Due.due("14: a TEXT of it", x.text(0), 1);
    Due.due("13: in their order", x.law(0, 2345, 0, 0), 51);
  }

  /** Every byte as the first one: it begins a TEXT, is one, or is the FAULT. */
  private static void firstBytes() {
    String[] one = {"mkn0123456789", "wmd0123456789"};
    for (int use = 0; use <= 1; use++) {
      for (int b = 0; b < 256; b++) {
        SoapNames x = new SoapNames();
        x.feed(b, 1);
        int due = one[use].indexOf(b) >= 0 ? 1 : b == '!' || b == '(' ? -11 : -10;
        Due.due("14: byte " + b + ", USE " + use, x.text(use), due);
      }
    }
  }

  /** Every byte behind a whole TEXT: it goes on, or is the FAULT. */
  private static void nextBytes() {
    for (int b = 0; b < 256; b++) {
      boolean isSign = "|&<=>+-*/%".indexOf(b) >= 0;
      behind("m", b, isSign);
      behind("m<m", b, isSign && "<=>".indexOf(b) < 0);
      behind("(m)", b, isSign);
      behind("(m=m)", b, isSign);
      behind("m<m|m", b, isSign);
      behind("m<m&m", b, isSign);
      behind("m<m+m", b, isSign && "<=>".indexOf(b) < 0);
      behind("9999", b, isSign);
      behind("(m", b, isSign || b == ')');
      behind("(m>m", b, isSign && "<=>".indexOf(b) < 0 || b == ')');
    }
  }

  private static void behind(String signs, int b, boolean goesOn) {
    SoapNames x = new SoapNames();
    Due.feed(x, signs);
    x.feed(b, 1);
    int length = signs.length();
    boolean isWhole = goesOn && b == ')';
    int due = isWhole ? 1 : goesOn ? -11 - length : -10 - length;
    Due.due("14: byte " + b + " behind " + signs, x.text(0), due);
  }

  private static void text(String signs, int due) {
    SoapNames x = new SoapNames();
    Due.due("14: " + signs, Due.text(x, 0, signs), due);
  }

  private static void digitsAndOpened() {
    text("1", 1);
    text("1234", 1);
    text("12345", -14);
    text("m+1234*5678", 1);
    text("m+1234*56789", -21);
    text("(((((m)))))", 1);
    text("(((((", -15);
    text("((((((", -15);
    text("(((((!m)))))", -15);
    text("!!!!!m", 1);
    text("!!!!!", -15);
    text("!!!!!!", -15);
    text("!!!!!(m)", -15);
    text("!!!!(m)", 1);
    text("!!!!(!m)", -15);
    text("!!!!(m)+!!!!!m", 1);
    text("(!m+!!!!m+!!!!m)", 1);
    text("(!m+!!!!m+!!!!!m)", -24);
    text("m m", -11);
    text(" m", -10);
    text("m\t", -11);
  }

  /** What a USE gives is held, on both sides, and in between is what it is. */
  private static void held() {
    SoapNames x = new SoapNames();
    int[] without = {1, 1, 1, 2, 2, 2, 3, 3, 3, 4};
    for (int w = 0; w <= 9; w++) {
      Due.due("15: without a TEXT, WATER " + w, x.law(1, w, 0, 0), without[w]);
      Due.due("15: without a TEXT, m " + w, x.law(0, w, w, w), 5);
    }
    Due.due("15: without a TEXT, 99", x.law(1, 294, 0, 0), 99);
    Due.text(x, 0, "m");
    Due.text(x, 1, "w");
    int[] given = {Due.MIN, -1, 0, 1, 2, 98, 99, 100, Due.MAX};
    int[] thick = {1, 1, 1, 1, 2, 98, 99, 99, 99};
    int[] wear = {0, 0, 0, 1, 2, 98, 99, 99, 99};
    for (int i = 0; i < given.length; i++) {
      Due.due("15: THICK by " + given[i], x.law(0, given[i], 0, 0), thick[i]);
      Due.due("15: WEAR by " + given[i], x.law(1, given[i], 0, 0), wear[i]);
    }
  }

  private static void round(String signs, int a, int b, int due) {
    SoapNames x = new SoapNames();
    Due.due("15: " + signs, Due.text(x, 1, signs), 1);
    Due.due("15: " + signs + " by " + a + ", " + b, x.law(1, a, b, 0), due);
  }

  private static void roundTexts() {
    round("w+m<0", Due.MAX, 1, 1);
    round("w+m+1=w-m+1", Due.MIN, Due.MIN, 1);
    round("w-m>0", Due.MIN, 1, 1);
    round("w*m", 65536, 65536, 0);
    round("w*m+7", 65536, 65536, 7);
    round("w*m=w", Due.MIN, -1, 1);
    round("w/m=w", Due.MIN, -1, 1);
    round("w%m+1", Due.MIN, -1, 1);
    round("w/m+1", 7, 0, 1);
    round("w%m+1", 7, 0, 1);
    round("m/w+1", 7, 0, 1);
    round("w/m+9", -7, 2, 6);
    round("w/m+9", 7, -2, 6);
    round("w/m+9", -7, -2, 12);
    round("w%m+9", -7, 2, 8);
    round("w%m+9", 7, -2, 10);
    round("w|m", 0, 0, 0);
    round("w|m", Due.MIN, 0, 1);
    round("w|m", 0, 5, 1);
    round("w&m", 2, 5, 1);
    round("w&m", 2, 0, 0);
    round("w&m", 0, 2, 0);
    round("!w", 0, 0, 1);
    round("!w", -1, 0, 0);
    round("w<m", 3, 3, 0);
    round("w<m", 2, 3, 1);
    round("w>m", 3, 3, 0);
    round("w>m", 3, 2, 1);
    round("w=m", 3, 3, 1);
    round("w=m", 3, 2, 0);
    round("0&w/m|1", 1, 0, 1);
  }

  /** TEXTS of 50 bytes. */
  private static void all50() {
    StringBuilder steps = new StringBuilder("!m");
    StringBuilder signs = new StringBuilder("12");
    for (int i = 0; i < 24; i++) {
      steps.append("+m");
      signs.append("+n");
    }
    SoapNames x = new SoapNames();
    Due.due("14: 50 bytes", Due.text(x, 0, steps + ""), 1);
    Due.due("15: all of them", x.law(0, 2, 0, 0), 48);
    Due.due("15: all of them, with !", x.law(0, 0, 0, 0), 1);
    Due.due("14: 50 bytes again", Due.text(x, 0, signs + ""), 1);
    Due.due("15: all of them again", x.law(0, 0, 0, 3), 84);
    signs.setCharAt(49, '!');
    Due.due("14: it ends too early behind 50", Due.text(x, 0, signs + ""), -60);
    signs.setCharAt(49, ')');
    Due.due("14: the last of 50", Due.text(x, 0, signs + ""), -59);
    String deep = "m|n&m<n+m*(m|n&m<n+m*(m|n&m<n+m*(m|n&m<n+m*(1))))";
    Due.due("14: deep", Due.text(x, 0, deep) * 100 + deep.length(), 149);
    Due.due("15: deep", x.law(0, 0, 0, 1), 1);
  }

  private static void lastDay() {
    SoapNames x = houses(1);
    Due.cake(x, 0, 0, 1);
    Due.text(x, 1, "d=9998");
    for (int i = 0; i < 100; i++) {
      x.days(99);
    }
    Due.due("16: 9900", x.count(2), 9900);
    Due.due("16: it is not WORN", x.days(98) * 100 + x.ofCake(0, 4), 0);
    Due.due("16: 9998 and 2", x.days(2), Due.STATE);
    Due.due("17: 9998 and 2", x.loose(2), Due.STATE);
    x.image();
    Due.due("17: 9998 and 1", x.loose(1) * 10000 + x.count(2), 9999);
    x.restore();
    Due.due("16: 9998 and 1", x.days(1) * 10000 + x.count(2), 9999);
    Due.due("16: it is WORN by the DAY ahead", x.ofCake(0, 4), 1);
    Due.due("16: 9999 and 1", x.days(1), Due.STATE);
    Due.due("17: 9999 and 1", x.loose(1), Due.STATE);
    Due.due("38: DAY", x.restore(), 9998);
  }

  private static void sets() {
    SoapNames x = houses(4);
    for (int i = 0; i < 6; i++) {
      Due.cake(x, 0, 3, i == 5 ? 9 : 0);
    }
    Due.due("3: all cakes", x.ofHouse(3, 2), 63);
    Due.due("3: GUESTS 0 and 9", x.ofHouse(3, 3), 513);
    Due.due("18: in one", x.where(0), 8);
    Due.due("19: in one HOUSE alone", x.twice(), 0);
    for (int i = 0; i < 4; i++) {
      x.shift(i, 0, i);
    }
    Due.due("18: in all", x.where(0), 15);
    Due.due("19: GUEST 0", x.twice(), 1);
    x.shift(4, 0, 0);
    x.shift(1, 1, 5);
    x.shift(2, 1, 5);
    x.shift(3, 1, 5);
    Due.due("19: in one again", x.twice(), 0);
    Due.due("3: the GONE one is in it, too", x.ofHouse(3, 2), 8 + 32);
    Due.due("3: its GUEST isn't", x.ofHouse(3, 3), 512);
    x.shift(5, 0, 2);
    x.become(4, 0);
    x.shift(4, 0, 1);
    Due.due("19: in two", x.twice(), 1);
    Due.due("22: now", x.clash(0) * 100 + x.clash(1), 0);
  }

  private static void clash() {
    SoapNames x = houses(2);
    Due.cake(x, 0, 0, 9, 5);
    Due.cake(x, 0, 1, 8, 5);
    Due.cake(x, 0, 0, 7, 3, 0);
    Due.cake(x, 0, 1, 6, 3, 0);
    Due.due("22: two at once, when", x.clash(0), 5);
    Due.due("22: two at once, the least", x.clash(1), 3);
    Due.due("22: it is only thought", x.twice() + x.count(2), 0);
    x.days(5);
    Due.due("19: two at once", x.twice(), 32 + 8);
    Due.due("22: now", x.clash(0) * 10 + x.clash(1), 3);
    x.days(5);
    Due.due("22: GUEST 0", x.clash(0) * 10 + x.clash(1), 0);
    x.days(5);
    Due.due("22: all are GONE", x.clash(0), Due.NONE);
  }

  /** DAY is 9999, and cakes wear on the DAYS behind it alone. */
  private static void thoughtPastTheLastDay() {
    SoapNames x = houses(2);
    Due.text(x, 1, "(d>9999)*(1+w)");
    for (int i = 0; i < 101; i++) {
      x.days(99);
    }
    Due.cake(x, 0, 0, 1, 2, 3);
    Due.cake(x, 0, 1, 4, 2);
    Due.due("20: DAY 9999", x.then(1, 0, 1), 0);
    Due.due("20: DAY 10000", x.then(2, 0, 1), 1);
    Due.due("20: DAY 10097", x.then(99, 0, 1), 15);
    Due.due("21: behind 9999", x.comes(2, 0), 6);
    Due.due("22: behind 9999", x.clash(0) * 10 + x.clash(1), 62);
    Due.due("23: behind 9999", x.spares(3, 12), 1);
    Due.due("23: not yet", x.spares(3, 11), 0);
    Due.due("24: behind 9999", x.hurry(3, 0, 11), 1);
    Due.due("26: behind 9999", x.howFar(0, 1, 2, 4, 0) * 10 + x.howFar(0, 1, 2, 4, 1), 32);
    Due.due("28: behind 9999", x.odds(3, 0, 4, 0) * 100 + x.odds(3, 0, 4, 1), 110);
    x.sheet(0, 8, 8);
    for (int i = 0; i < 8; i++) {
      x.put(0, i, i < 6 ? 1 : 2);
    }
    Due.due("25: behind 9999", x.fits(0), 1);
    for (int i = 0; i < 20; i++) {
      x.tell(i < 10 ? 0 : i < 15 ? 1 : 2);
    }
    Due.due("40: behind 9999", x.check(), 0);
    Due.due("20: DAY stays", x.count(2), 9999);
    Due.due("20: WORN stays", x.count(5), 0);
  }

  /** A GUEST comes behind 29 DAYS, another one behind 30. */
  private static void thirtyDays() {
    SoapNames x = houses(2);
    Due.text(x, 0, "29+m");
    Due.text(x, 1, "1");
    Due.cake(x, 0, 0, 1, 2);
    Due.cake(x, 1, 1, 3, 4);
    Due.due("23: n 30, behind 29", x.spares(2, 30), 1);
    Due.due("23: n 29, behind 29", x.spares(2, 29), 0);
    Due.due("23: n 30, behind 30", x.spares(4, 30), 0);
    Due.due("23: n 1, now", x.spares(1, 1), Due.NONE);
    Due.due("23: n 0, now", x.spares(1, 0), 0);
    x.layer(1, 2);
    Due.due("23: the other HOUSE not by then", x.spares(2, 30), 1);
    x.shift(1, 1, 31);
    Due.due("23: both HOUSES", x.spares(2, 30), 3);
    x.change(0, 0, 0);
    Due.due("23: the other one", x.spares(2, 30), 2);
    x.change(0, 0, 1);
    x.shift(1, 1, 0);
    Due.due("24: n 30, behind 29", x.hurry(2, 0, 30), 0);
    Due.due("24: n 29, behind 29", x.hurry(2, 0, 29), 1);
    Due.due("24: n 30, behind 30", x.hurry(4, 1, 30), 1);
    Due.due("24: n 5, behind 4", x.hurry(2, 0, 5), 7);
    Due.due("24: n 4, behind 3", x.hurry(2, 0, 4), 9);
    Due.due("24: n 3, behind 2", x.hurry(2, 0, 3), Due.NONE);
    x.change(0, 0, 9);
    Due.due("24: beyond 9", x.hurry(2, 0, 3), 6);
    Due.due("24: HANDS stay", x.ofHouse(0, 0), 9);
  }

  private static void howFar() {
    SoapNames x = houses(1);
    Due.text(x, 0, "99");
    Due.cake(x, 40, 0, 1, 1, 1, 1, 1, 1, 2, 3);
    Due.due("26: 999 is the last", x.howFar(0, 2, 2, 0, 0), 1000 - 6 * 148);
    Due.due("26: as WORN as that", x.howFar(0, 2, 2, 0, 1), 6 * 148);
    Due.due("26: beyond 999", x.howFar(0, 3, 3, 0, 0), 0);
    Due.due("26: beyond 999, none", x.howFar(0, 3, 3, 0, 1), Due.NONE);
    Due.text(x, 1, "38");
    Due.due("26: n 1 to 999 and 37", x.howFar(0, 2, 3, 1, 0), 1000 - (7 * 148 - 37));
    Due.text(x, 1, "37");
    Due.due("26: n 1 to 999 and 36", x.howFar(0, 2, 3, 1, 0), 0);
    Due.due("26: 0 is the first", x.howFar(0, 1, 1, 1, 1), 0);
    Due.text(x, 1, "1");
    x.become(0, 0);
    Due.due("26: n 0", x.howFar(0, 1, 1, 0, 0), 594);
    Due.due("26: n 20", x.howFar(0, 1, 2, 20, 0) * 1000 + x.howFar(0, 1, 2, 20, 1), 20574);
  }

  private static void lends() {
    SoapNames x = houses(4);
    Due.cake(x, 0, 0, 7);
    Due.cake(x, 0, 0, 7);
    Due.cake(x, 0, 0, 7);
    Due.cake(x, 0, 0, 8);
    Due.cake(x, 0, 0, 9);
    Due.due("27: a cake too few", x.lends(0), Due.NONE);
    Due.cake(x, 0, 0, 0);
    int[] due = {0, 3, 4, 5};
    for (int h = 0; h < 4; h++) {
      Due.due("27: HOUSE " + h, x.lends(h), due[h]);
    }
    x.shift(1, 1, 5);
    Due.due("27: one that is GONE", x.lends(1) * 100 + x.lends(2) * 10 + x.lends(3), 134);
    Due.due("27: all are in one HOUSE still", x.ofHouse(0, 2), 63);
  }

  private static void odds() {
    // Above and below the line, by how many of the ten kinds of WATER bring the GUEST.
    int[] due = {1, 110, 105, 310, 205, 102, 305, 710, 405, 910, 101};
    for (int many = 0; many <= 10; many++) {
      SoapNames x = houses(1);
      Due.text(x, 1, "w<" + many);
      Due.text(x, 0, "1");
      Due.cake(x, 0, 0, 1, 2);
      Due.due("28: " + many + " of 10", x.odds(2, 0, 1, 0) * 100 + x.odds(2, 0, 1, 1), due[many]);
      int others = x.odds(1, 0, 1, 0) * 100 + x.odds(1, 0, 1, 1);
      Due.due("28: the others of 10", others, due[10 - many]);
    }
  }

  private static void voice(int km, int act, int x, int due) {
    SoapNames soap = houses(1);
    for (int i = 0; i < 6; i++) {
      soap.cake(0, 0);
    }
    soap.become(5, km);
    Due.due("30: " + km + ", act " + act + ", " + x, soap.voice(5, act, x), due);
  }

  private static void roundVoices() {
    voice(0, 0, Due.MAX - 5, Due.MAX);
    voice(0, 0, Due.MAX - 4, Due.MIN);
    voice(0, 1, Due.MAX - 4, 0);
    voice(0, 1, (1 << 30) - 5, Due.MIN);
    voice(9, 2, Due.MIN + 9, Due.MIN);
    voice(9, 2, Due.MIN + 8, Due.MAX);
    voice(10, 0, Due.MAX - 4, Due.MIN);
    voice(20, 1, Due.MAX - 4, -1);
    voice(30, 2, Due.MIN, Due.MIN);
    voice(50, 1, Due.MAX, 2 * (Due.MIN + 5) - 1);
    voice(60, 2, 0, 5);
    voice(60, 2, -5, 0);
    voice(60, 2, -1, 4);
    voice(60, 2, Due.MIN, Due.MIN + 5);
    voice(60, 3, 1, 12 - (12 ^ (-1 ^ 5)));
  }

  private static void roundDraws() {
    SoapNames x = houses(3);
    for (int seed : new int[] {Due.MIN, -1, 0, Due.MAX}) {
      x.seed(seed);
      int first = seed * 1103515245 + 12345;
      int second = first * 1103515245 + 12345;
      x.loose(1);
      Due.due("29: z behind " + seed, x.count(9), second);
      Due.due("17: HANDS behind " + seed, x.ofHouse((first >>> 8) % 3, 0), (second >>> 8) % 10);
    }
  }

  private static void sheets() {
    SoapNames x = houses(1);
    for (int i = 0; i < 6; i++) {
      Due.cake(x, 0, 0, 1);
      x.shift(i, 1, 77);
    }
    x.sheet(0, 8, 2);
    Due.due("35: two numbers", x.worns(0), 2);
    Due.due("35: the cake behind them stays", x.ofCake(1, 4) * 100 + x.ofCake(2, 4), 77);
    x.sheet(0, 16, 40);
    x.put(0, 6, -1);
    x.put(0, 39, -1);
    Due.due("35: forty numbers, six cakes", x.worns(0), 6);
    Due.due("36: forty numbers, six cakes, the first", x.judge(0), 0);
    for (int i = 0; i < 40; i++) {
      x.put(0, i, 1);
    }
    Due.due("36: the first that is too many", x.judge(0), 6);
    Due.due("34: all forty", x.move(0, 0, 0, 0, 40), 40);
    Due.due("34: forty-one", x.move(0, 0, 0, 0, 41), Due.BEYOND);
    Due.due("34: the last one", x.move(0, 39, 0, 0, 1), 1);
    Due.due("34: none, behind the last one", x.move(0, 40, 0, 40, 0), 0);
    int[] bits = {8, 16, 32};
    int[] least = {-128, -32768, Due.MIN};
    int[] most = {127, 32767, Due.MAX};
    for (int i = 0; i < 3; i++) {
      x.sheet(1, bits[i], 1);
      x.put(1, 0, most[i]);
      Due.due("33: the greatest of " + bits[i], x.worns(1), i == 0 ? 1 : 0);
      x.put(1, 0, most[i] + 1);
      Due.due("33: goes round to the least of " + bits[i], x.worns(1), 0);
      x.put(1, 0, least[i] - 1);
      Due.due("33: goes round to the greatest of " + bits[i], x.worns(1), i == 0 ? 1 : 0);
      x.put(1, 0, 2 * least[i] + 1);
      Due.due("33: the lowest bits of " + bits[i], x.worns(1), 1);
      Due.due("33: 1 of " + bits[i], x.ofCake(0, 4), 1);
    }
    x.sheet(2, 8, 1);
    x.put(2, 0, 255);
    x.shift(0, 1, 5);
    Due.due("36: 255 of 8 bits is nobody", x.judge(2), 1);
    x.put(2, 0, -1);
    Due.due("36: nobody", x.judge(2), 1);
  }

  private static void images() {
    SoapNames x = houses(1);
    Due.due("38: no IMAGE", x.restore(), Due.NONE);
    for (int i = 1; i <= 3; i++) {
      Due.due("37: how often", x.image(), i);
    }
    x.house(0);
    Due.due("38: DAY 0", x.restore() + x.count(0), 1);
    Due.due("38: the IMAGE stays", x.restore(), 0);
    Due.due("37: how often, behind a restore()", x.image(), 4);
    Due.due("38: NONE was told, and is still", x.told(2), 1);
    Due.cake(x, 0, 0, 3);
    x.voice(0, 1, 0);
    x.sheet(0, 8, 1);
    x.put(0, 0, 3);
    x.image();
    Due.due("37: THE TRACE stays", x.count(8) * 100 + x.trace(0), 211);
    Due.due("37: SHEETS stay", x.judge(0), -1);
    Due.due("37: what told() tells stays", x.told(2), 1);
  }

  private static void waiting() {
    SoapNames x = houses(1);
    Due.cake(x, 0, 0, 1, 2, 3, 4);
    for (int i = 0; i < 20; i++) {
      Due.due("39: there is room", x.tell(i < 19 ? 0 : 1), i + 1);
    }
    Due.due("39: 20 wait", x.tell(0), Due.FULL);
    Due.due("40: all 20 are so", x.check(), 0);
    Due.due("40: none waits", x.check() + x.count(7), 0);
    for (int i = 0; i < 20; i++) {
      x.tell(0);
    }
    Due.due("40: the last isn't so", x.check(), 20);
    Due.due("39: the first one again", x.tell(1), 1);
    Due.due("40: the first isn't so", x.check(), 1);
    for (int v : new int[] {-1, 1, Due.MIN, Due.MAX}) {
      x.tell(v);
      Due.due("40: " + v + " isn't so, but no ERROR", x.check(), 1);
    }
    Due.due("40: no ERRORS", x.told(1), 0);
  }
}
