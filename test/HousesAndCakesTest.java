/** Promises 1 to 12. */
public final class HousesAndCakesTest {
  public static void main(String[] args) {
    aNewObject();
    house();
    ofHouse();
    change();
    cake();
    ofCake();
    thick();
    shows();
    wears();
    layer();
    named();
    shift();
    press();
    become();
    as();
    Due.end();
  }

  private static void aNewObject() {
    SoapNames x = new SoapNames();
    for (int what = 0; what < 9; what++) {
      Due.due("1: count(" + what + ")", x.count(what), 0);
    }
    Due.due("1: count(9)", x.count(9), 1);
    for (int k = 1; k <= 5; k++) {
      Due.due("1: told(" + k + ")", x.told(k), 0);
    }
    Due.due("1: ofHouse(0, 0)", x.ofHouse(0, 0), Due.BEYOND);
    Due.due("1: ofCake(0, 0)", x.ofCake(0, 0), Due.BEYOND);
    Due.due("1: law(0, 1, 2, 3)", x.law(0, 1, 2, 3), 5);
    Due.due("1: law(1, 7, 2, 3)", x.law(1, 7, 2, 3), 3);
    Due.due("1: restore()", x.restore(), Due.NONE);
    Due.due("1: trace(0)", x.trace(0), Due.NONE);
    for (int s = 0; s < 4; s++) {
      Due.due("1: judge(" + s + ")", x.judge(s), Due.NONE);
    }
    SoapNames y = new SoapNames();
    y.house(1);
    Due.due("1: another object's HOUSE", x.count(0), 0);
  }

  private static void house() {
    SoapNames x = new SoapNames();
    Due.due("2: water -1", x.house(-1), Due.BEYOND);
    Due.due("2: water 10", x.house(10), Due.BEYOND);
    Due.due("2: water 0", x.house(0), 0);
    Due.due("2: water 9", x.house(9), 1);
    Due.due("2: third", x.house(4), 2);
    Due.due("2: fourth", x.house(4), 3);
    Due.due("2: fifth", x.house(4), Due.FULL);
    Due.due("2: BEYOND ahead of FULL", x.house(10), Due.BEYOND);
    Due.due("2: how many", x.count(0), 4);
    Due.due("2: HANDS are 1 at first", x.ofHouse(1, 0), 1);
    Due.due("2: WATER", x.ofHouse(1, 1), 9);
    Due.due("2: FULL told", x.told(4), 1);
  }

  private static void ofHouse() {
    SoapNames x = new SoapNames();
    x.house(3);
    x.house(5);
    Due.cake(x, 0, 0, 4);
    Due.cake(x, 0, 1, 7);
    Due.cake(x, 0, 0, 2);
    Due.cake(x, 0, 0, -1);
    Due.cake(x, 0, 0);
    Due.due("3: HANDS", x.ofHouse(0, 0), 1);
    Due.due("3: WATER", x.ofHouse(1, 1), 5);
    Due.due("3: cakes, the GONE one too", x.ofHouse(0, 2), 1 + 4 + 8 + 16);
    Due.due("3: cakes of 1", x.ofHouse(1, 2), 2);
    Due.due("3: GUESTS", x.ofHouse(0, 3), 16 + 4);
    Due.due("3: GUESTS of 1", x.ofHouse(1, 3), 128);
    x.layer(4, 0);
    Due.due("3: GUEST 0", x.ofHouse(0, 3), 16 + 4 + 1);
    Due.due("3: what 4", x.ofHouse(0, 4), Due.BEYOND);
    Due.due("3: what -1", x.ofHouse(0, -1), Due.BEYOND);
    Due.due("3: house 2", x.ofHouse(2, 0), Due.BEYOND);
    Due.due("3: house -1", x.ofHouse(-1, 0), Due.BEYOND);
    Due.due("3: house MIN", x.ofHouse(Due.MIN, 2), Due.BEYOND);
  }

  private static void change() {
    SoapNames x = new SoapNames();
    x.house(3);
    Due.due("4: HANDS", x.change(0, 0, 9), 1);
    Due.due("4: HANDS again", x.change(0, 0, 0), 9);
    Due.due("4: WATER", x.change(0, 1, 9), 3);
    Due.due("4: WATER again", x.change(0, 1, 0), 9);
    Due.due("4: HANDS 10", x.change(0, 0, 10), Due.BEYOND);
    Due.due("4: HANDS -1", x.change(0, 0, -1), Due.BEYOND);
    Due.due("4: WATER 10", x.change(0, 1, 10), Due.BEYOND);
    Due.due("4: WATER -1", x.change(0, 1, -1), Due.BEYOND);
    Due.due("4: what 2", x.change(0, 2, 1), Due.BEYOND);
    Due.due("4: what -1", x.change(0, -1, 1), Due.BEYOND);
    Due.due("4: house 1", x.change(1, 0, 1), Due.BEYOND);
    Due.due("4: house -1", x.change(-1, 0, 1), Due.BEYOND);
    Due.due("4: nothing changed", x.ofHouse(0, 0) + x.ofHouse(0, 1), 0);
  }

  private static void cake() {
    SoapNames x = new SoapNames();
    Due.due("5: no HOUSE", x.cake(0, 0), Due.BEYOND);
    x.house(3);
    x.house(3);
    Due.due("5: km -1", x.cake(-1, 0), Due.BEYOND);
    Due.due("5: km 70", x.cake(70, 0), Due.BEYOND);
    Due.due("5: house 2", x.cake(0, 2), Due.BEYOND);
    Due.due("5: house -1", x.cake(0, -1), Due.BEYOND);
    int[] km = {0, 69, 14, 23, 32, 48};
    int[] thick = {5, 5, 7, 2, 5, 15};
    for (int i = 0; i < 6; i++) {
      Due.due("5: cake " + i, x.cake(km[i], i % 2), i);
      Due.due("5: KIND", x.ofCake(i, 0), km[i] / 10);
      Due.due("5: m", x.ofCake(i, 1), km[i] % 10);
      Due.due("5: HOUSE", x.ofCake(i, 2), i % 2);
      Due.due("5: LAYERS", x.ofCake(i, 3), 0);
      Due.due("5: WORN", x.ofCake(i, 4), 0);
      Due.due("5: THICK", x.ofCake(i, 5), thick[i]);
      Due.due("5: GONE", x.ofCake(i, 7), 1);
    }
    Due.due("5: FULL", x.cake(0, 0), Due.FULL);
    Due.due("5: BEYOND ahead of FULL", x.cake(70, 0), Due.BEYOND);
    Due.due("5: house BEYOND ahead of FULL", x.cake(0, 9), Due.BEYOND);
    Due.due("5: how many", x.count(1), 6);
  }

  private static void ofCake() {
    SoapNames x = new SoapNames();
    x.house(6);
    Due.cake(x, 37, 0, 7, 8, 9);
    int[] due = {3, 7, 0, 3, 0, 5, -1, 0, 3};
    for (int what = 0; what < due.length; what++) {
      Due.due("6: what " + what, x.ofCake(0, what), due[what]);
    }
    Due.due("6: what 9", x.ofCake(0, 9), Due.BEYOND);
    Due.due("6: what -1", x.ofCake(0, -1), Due.BEYOND);
    Due.due("6: cake 1", x.ofCake(1, 0), Due.BEYOND);
    Due.due("6: cake -1", x.ofCake(-1, 0), Due.BEYOND);
    x.shift(0, 1, 14);
    Due.due("6: WORN", x.ofCake(0, 4), 14);
    Due.due("6: SHOWS", x.ofCake(0, 6), 9);
    Due.due("6: GONE", x.ofCake(0, 7), 0);
    Due.due("6: WORN more", x.ofCake(0, 8), 3);
    x.shift(0, 1, 15);
    Due.due("6: SHOWS, GONE", x.ofCake(0, 6), -1);
    Due.due("6: GONE then", x.ofCake(0, 7), 1);
    Due.due("6: a GONE cake isn't WORN", x.ofCake(0, 8), 0);
  }

  private static void thick() {
    int[] v5 = {5, 7, 2, 5, 16, 2, 5};
    int[] v1 = {1, 1, 1, 1, 10, 1, 1};
    int[] v99 = {99, 148, 49, 99, 157, 49, 99};
    SoapNames x = new SoapNames();
    x.house(0);
    x.cake(0, 0);
    for (int kind = 0; kind <= 6; kind++) {
      x.become(0, 10 * kind + 9);
      Due.due("6: THICK of 5, KIND " + kind, x.ofCake(0, 5), v5[kind]);
    }
    Due.text(x, 0, "0");
    for (int kind = 0; kind <= 6; kind++) {
      x.become(0, 10 * kind + 9);
      Due.due("6: THICK of 1, KIND " + kind, x.ofCake(0, 5), v1[kind]);
    }
    Due.text(x, 0, "100");
    for (int kind = 0; kind <= 6; kind++) {
      x.become(0, 10 * kind + 9);
      Due.due("6: THICK of 99, KIND " + kind, x.ofCake(0, 5), v99[kind]);
    }
    Due.text(x, 0, "m*10+k+20*n");
    x.become(0, 33);
    Due.due("6: THICK by m, k", x.ofCake(0, 5), 33);
    x.layer(0, 1);
    Due.due("6: THICK by n", x.ofCake(0, 5), 53);
  }

  private static void shows() {
    // By KINDS (m is 2): what the cake SHOWS as each of its LAYERS is out, and when it is GONE.
    int[][] due = {
      {1, 2, -1, 3, 2, 4, -1},
      {1, 2, -1, 3, 2, 4, -1},
      {1, 2, -1, 3, 2, 4, -1},
      {1, -1, -1, 3, -1, 4, -1},
      {1, 2, -1, 3, 2, 4, -1},
      {2, -1, 3, 2, 4, 4, -1},
      {1, -1, -1, -1, -1, -1, -1}
    };
    SoapNames y = new SoapNames();
    y.house(0);
    Due.cake(y, 69, 0, 0, 1, 2, 3);
    y.shift(0, 1, 14);
    Due.due("6: BLANK, the third", y.ofCake(0, 6), 2);
    y.shift(0, 1, 15);
    Due.due("6: BLANK after the third", y.ofCake(0, 6), -1);
    Due.due("6: BLANK, but not GONE", y.ofCake(0, 7), 0);
    SoapNames x = new SoapNames();
    x.house(0);
    Due.cake(x, 2, 0, 1, 2, -1, 3, 2, 4);
    for (int kind = 0; kind <= 6; kind++) {
      x.become(0, 10 * kind + 2);
      int thick = x.ofCake(0, 5);
      for (int i = 0; i <= 6; i++) {
        x.shift(0, 1, i * thick);
        Due.due("6: SHOWS, KIND " + kind + ", LAYER " + i, x.ofCake(0, 6), due[kind][i]);
        x.shift(0, 1, (i + 1) * thick - 1);
        Due.due("6: SHOWS, KIND " + kind + ", end of LAYER " + i, x.ofCake(0, 6), due[kind][i]);
      }
    }
  }

  private static void wears() {
    int[] one = {1, 0, 1, 1, 0, 2, 0};
    int[] none = {0, 0, 0, 0, 0, 1, 0};
    int[] many = {27, 26, 27, 27, 26, 28, 13};
    SoapNames x = new SoapNames();
    x.house(0);
    Due.cake(x, 0, 0, 1, 2, 3);
    for (int kind = 0; kind <= 6; kind++) {
      x.become(0, 10 * kind);
      x.change(0, 0, 1);
      x.change(0, 1, 0);
      Due.due("6: WORN more, 1 by 1, KIND " + kind, x.ofCake(0, 8), one[kind]);
      x.change(0, 0, 0);
      Due.due("6: WORN more, 0 by 1, KIND " + kind, x.ofCake(0, 8), none[kind]);
      x.change(0, 0, 9);
      x.change(0, 1, 6);
      Due.due("6: WORN more, 9 by 3, KIND " + kind, x.ofCake(0, 8), many[kind]);
    }
    Due.text(x, 1, "w*10+m+d*20");
    x.become(0, 4);
    x.change(0, 0, 2);
    Due.due("6: WORN more by w, m", x.ofCake(0, 8), 2 * 64);
    x.change(0, 1, 0);
    x.change(0, 0, 0);
    x.days(2);
    x.change(0, 0, 3);
    Due.due("6: WORN more by d", x.ofCake(0, 8), 3 * 44);
  }

  private static void layer() {
    SoapNames x = new SoapNames();
    x.house(0);
    x.cake(0, 0);
    Due.due("7: name -2", x.layer(0, -2), Due.BEYOND);
    Due.due("7: name 10", x.layer(0, 10), Due.BEYOND);
    Due.due("7: cake 1", x.layer(1, 0), Due.BEYOND);
    Due.due("7: cake -1", x.layer(-1, 0), Due.BEYOND);
    for (int i = 0; i < 8; i++) {
      Due.due("7: LAYER " + i, x.layer(0, i == 3 ? -1 : i + 2), i + 1);
    }
    Due.due("7: FULL", x.layer(0, 0), Due.FULL);
    Due.due("7: BEYOND ahead of FULL", x.layer(0, 10), Due.BEYOND);
    Due.due("7: how many", x.ofCake(0, 3), 8);
  }

  private static void named() {
    SoapNames x = new SoapNames();
    x.house(0);
    Due.cake(x, 0, 0, 9, -1, 0);
    Due.cake(x, 0, 0);
    Due.due("8: first", x.named(0, 0), 9);
    Due.due("8: second", x.named(0, 1), -1);
    Due.due("8: third", x.named(0, 2), 0);
    Due.due("8: fourth", x.named(0, 3), Due.BEYOND);
    Due.due("8: i -1", x.named(0, -1), Due.BEYOND);
    Due.due("8: i MAX", x.named(0, Due.MAX), Due.BEYOND);
    Due.due("8: no LAYERS", x.named(1, 0), Due.BEYOND);
    Due.due("8: cake 2", x.named(2, 0), Due.BEYOND);
    Due.due("8: cake -1", x.named(-1, 0), Due.BEYOND);
  }

  private static void shift() {
    SoapNames x = new SoapNames();
    x.house(0);
    x.house(0);
    Due.cake(x, 0, 1, 1, 2);
    Due.due("9: HOUSE", x.shift(0, 0, 0), 1);
    Due.due("9: HOUSE again", x.shift(0, 0, 1), 0);
    Due.due("9: WORN", x.shift(0, 1, 9999), 0);
    Due.due("9: WORN again", x.shift(0, 1, 7), 9999);
    Due.due("9: it SHOWS then", x.ofCake(0, 6), 2);
    Due.due("9: WORN 10000", x.shift(0, 1, 10000), Due.BEYOND);
    Due.due("9: WORN -1", x.shift(0, 1, -1), Due.BEYOND);
    Due.due("9: HOUSE 2", x.shift(0, 0, 2), Due.BEYOND);
    Due.due("9: HOUSE -1", x.shift(0, 0, -1), Due.BEYOND);
    Due.due("9: what 2", x.shift(0, 2, 0), Due.BEYOND);
    Due.due("9: what -1", x.shift(0, -1, 0), Due.BEYOND);
    Due.due("9: cake 1", x.shift(1, 0, 0), Due.BEYOND);
    Due.due("9: cake -1", x.shift(-1, 1, 0), Due.BEYOND);
    Due.due("9: HOUSE stays", x.ofCake(0, 2), 1);
    Due.due("9: WORN stays", x.ofCake(0, 4), 7);
  }

  private static void press() {
    SoapNames x = new SoapNames();
    x.house(0);
    Due.cake(x, 0, 0, 1, 2, 3, 4);
    Due.cake(x, 20, 0, 5, 6);
    Due.cake(x, 0, 0, 7, 8, 9, 0, 1, 2);
    x.cake(0, 0);
    Due.due("10: one and the same", x.press(0, 0), Due.BEYOND);
    Due.due("10: cake 4", x.press(4, 0), Due.BEYOND);
    Due.due("10: other 4", x.press(0, 4), Due.BEYOND);
    Due.due("10: cake -1", x.press(-1, 0), Due.BEYOND);
    Due.due("10: other -1", x.press(0, -1), Due.BEYOND);
    Due.due("10: GONE without LAYERS", x.press(3, 0), Due.STATE);
    Due.due("10: GONE, one and the same", x.press(3, 3), Due.BEYOND);
    x.shift(0, 1, 9);
    Due.due("10: the one out and those behind", x.press(0, 1), 3);
    Due.due("10: it is GONE", x.ofCake(0, 7), 1);
    Due.due("10: it has no LAYERS", x.ofCake(0, 3), 0);
    Due.due("10: its WORN stays", x.ofCake(0, 4), 9);
    Due.due("10: LAYERS of the other one", x.ofCake(1, 3), 5);
    int[] due = {5, 6, 2, 3, 4};
    for (int i = 0; i < due.length; i++) {
      Due.due("10: NAME " + i, x.named(1, i), due[i]);
    }
    Due.due("10: again", x.press(0, 1), Due.STATE);
    Due.due("10: room for two", x.press(1, 2), 2);
    Due.due("10: first of the two", x.named(2, 6), 5);
    Due.due("10: second of the two", x.named(2, 7), 6);
    Due.due("10: the rest is lost", x.ofCake(1, 3), 0);
    Due.due("10: GONE by WORN comes back by LAYERS", x.press(2, 0), 8);
    x.layer(3, 1);
    Due.due("10: no room", x.press(3, 0), 0);
    Due.due("10: no room, GONE all the same", x.ofCake(3, 3), 0);
    x.shift(0, 1, 40);
    Due.due("10: GONE by WORN", x.press(0, 1), Due.STATE);
    Due.text(x, 0, "n");
    x.layer(3, 1);
    x.layer(3, 1);
    Due.due("10: onto none", x.press(3, 1), 2);
    Due.due("10: THICK by the new n", x.ofCake(1, 5), 1);
    Due.due("10: THICK by no LAYERS", x.ofCake(3, 5), 1);
  }

  private static void become() {
    SoapNames x = new SoapNames();
    x.house(0);
    Due.cake(x, 12, 0, 1, 2);
    x.shift(0, 1, 3);
    Due.due("11: km", x.become(0, 69), 1);
    Due.due("11: again", x.become(0, 0), 6);
    Due.due("11: m", x.ofCake(0, 1), 0);
    Due.due("11: km 70", x.become(0, 70), Due.BEYOND);
    Due.due("11: km -1", x.become(0, -1), Due.BEYOND);
    Due.due("11: cake 1", x.become(1, 0), Due.BEYOND);
    Due.due("11: cake -1", x.become(-1, 0), Due.BEYOND);
    Due.due("11: WORN stays", x.ofCake(0, 4), 3);
    Due.due("11: LAYERS stay", x.ofCake(0, 3), 2);
    Due.due("11: THICK is another", x.become(0, 45), 0);
    Due.due("11: THICK", x.ofCake(0, 5), 12);
  }

  private static void as() {
    int[][] is = {
      {1, 0, 0, 0, 0, 0, 0},
      {1, 1, 0, 0, 0, 0, 0},
      {1, 0, 1, 0, 0, 0, 0},
      {1, 0, 0, 1, 0, 0, 0},
      {1, 1, 0, 0, 1, 0, 0},
      {1, 0, 1, 0, 0, 1, 0},
      {1, 0, 0, 1, 0, 0, 1}
    };
    SoapNames x = new SoapNames();
    x.house(0);
    x.cake(0, 0);
    for (int kind = 0; kind <= 6; kind++) {
      x.become(0, 10 * kind + 8);
      for (int as = 0; as <= 6; as++) {
        Due.due("12: " + kind + " as " + as, x.as(0, as), is[kind][as] == 1 ? 8 : Due.KIND);
      }
    }
    Due.due("12: kind 7", x.as(0, 7), Due.BEYOND);
    Due.due("12: kind -1", x.as(0, -1), Due.BEYOND);
    Due.due("12: cake 1", x.as(1, 0), Due.BEYOND);
    Due.due("12: cake -1", x.as(-1, 0), Due.BEYOND);
    Due.due("12: KIND told", x.told(5), 33);
  }
}
