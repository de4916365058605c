/**
 * Promises 2 to 42: of each number that a call is told, the last one that is taken and the first one
 * that is refused, on both sides.
 */
public final class BoundsTest {
  private interface Call {
    int on(SoapNames x, int v);
  }

  public static void main(String[] args) {
    housesAndCakes();
    presses();
    texts();
    days();
    wouldBe();
    howFar();
    lendsAndOdds();
    voices();
    sheets();
    told();
    placesInHouses();
    placesInCakes();
    Due.end();
  }

  /** What is put into a SHEET of three numbers, all 0, stands in SHEETS 0 and 3 alone. */
  private static SoapNames world() {
    SoapNames x = new SoapNames();
    x.house(0);
    x.house(3);
    x.house(3);
    Due.cake(x, 4, 0, 1, 2, -1, 3);
    Due.cake(x, 13, 1, 0, 2, 9);
    Due.cake(x, 25, 2, 7, 8, 0, 2);
    Due.cake(x, 32, 0, 2, 4, 2, 6);
    x.sheet(0, 8, 3);
    x.sheet(3, 8, 3);
    return x;
  }

  private static void taken(String what, int v, int due, Call call) {
    SoapNames x = world();
    Due.due(what + " " + v + ", taken", call.on(x, v), due);
  }

  private static void refused(String what, int v, int k, Call call) {
    SoapNames x = world();
    int[] before = new int[6];
    for (int i = 1; i <= 5; i++) {
      before[i] = x.told(i);
    }
    Due.due(what + " " + v + ", refused", call.on(x, v), -1000000000 - k);
    for (int i = 1; i <= 5; i++) {
      Due.due(what + " " + v + ", as told(" + i + ") tells", x.told(i) - before[i], i == k ? 1 : 0);
    }
  }

  /** From low on to high a number is taken, with these answers at the ends; no other one is. */
  private static void bounds(String what, int low, int high, int atLow, int atHigh, Call call) {
    taken(what, low, atLow, call);
    taken(what, high, atHigh, call);
    for (int v : new int[] {low - 1, high + 1, Due.MIN, Due.MAX}) {
      refused(what, v, 1, call);
    }
  }

  private static void housesAndCakes() {
    bounds("2: water", 0, 9, 3, 3, (x, v) -> x.house(v));
    bounds("3: house", 0, 2, 0, 3, (x, v) -> x.ofHouse(v, 1));
    bounds("3: what", 0, 3, 1, 2, (x, v) -> x.ofHouse(0, v));
    bounds("4: house", 0, 2, 0, 3, (x, v) -> x.change(v, 1, 5));
    bounds("4: what", 0, 1, 1, 3, (x, v) -> x.change(1, v, 5));
    bounds("4: HANDS", 0, 9, 1, 1, (x, v) -> x.change(1, 0, v));
    bounds("4: WATER", 0, 9, 3, 3, (x, v) -> x.change(1, 1, v));
    bounds("5: km", 0, 69, 4, 4, (x, v) -> x.cake(v, 0));
    bounds("5: house", 0, 2, 4, 4, (x, v) -> x.cake(0, v));
    bounds("6: cake", 0, 3, 4, 2, (x, v) -> x.ofCake(v, 1));
    bounds("6: what", 0, 8, 1, 1, (x, v) -> x.ofCake(1, v));
    bounds("7: cake", 0, 3, 5, 5, (x, v) -> x.layer(v, 1));
    bounds("7: name", -1, 9, 4, 4, (x, v) -> x.layer(1, v));
    bounds("8: cake", 0, 3, 2, 4, (x, v) -> x.named(v, 1));
    bounds("8: i", 0, 3, 1, 3, (x, v) -> x.named(0, v));
    bounds("8: i of another one", 0, 2, 0, 9, (x, v) -> x.named(1, v));
    bounds("9: cake", 0, 3, 0, 0, (x, v) -> x.shift(v, 1, 7));
    bounds("9: what", 0, 1, 1, 0, (x, v) -> x.shift(1, v, 2));
    bounds("9: HOUSE", 0, 2, 1, 1, (x, v) -> x.shift(1, 0, v));
    bounds("9: WORN", 0, 9999, 0, 0, (x, v) -> x.shift(1, 1, v));
    bounds("11: cake", 0, 3, 0, 3, (x, v) -> x.become(v, 0));
    bounds("11: km", 0, 69, 1, 1, (x, v) -> x.become(1, v));
    bounds("12: cake", 0, 3, 4, 2, (x, v) -> x.as(v, 0));
    bounds("12: kind", 0, 6, 9, 9, (x, v) -> x.become(1, 69) + x.as(1, v) - 1);
  }

  private static void presses() {
    bounds("10: cake", 0, 3, 4, 4, (x, v) -> x.press(v, 1));
    bounds("10: other", 0, 3, 3, 3, (x, v) -> x.press(1, v));
    for (int cake = 0; cake < 4; cake++) {
      int same = cake;
      refused("10: one and the same", cake, 1, (x, v) -> x.press(same, v));
    }
  }

  private static void texts() {
    bounds("13: n", 1, 8, 1, 8, (x, v) -> x.feed(-1L, v));
    bounds("14: use", 0, 1, 1, 1, (x, v) -> x.feed('9', 1) + x.text(v) - 1);
    bounds("15: use", 0, 1, 5, 3, (x, v) -> x.law(v, 6, 6, 6));
  }

  private static void days() {
    bounds("16: n", 1, 99, 0, 4, (x, v) -> x.days(v));
    bounds("16: n, as DAY", 1, 99, 1, 99, (x, v) -> x.days(v) < 0 ? Due.BEYOND : x.count(2));
    bounds("17: n", 1, 40, 0, 4, (x, v) -> x.loose(v));
    bounds("17: n, as DAY", 1, 40, 1, 40, (x, v) -> x.loose(v) < 0 ? Due.BEYOND : x.count(2));
    bounds("18: guest", 0, 9, 2, 0, (x, v) -> x.where(v));
    bounds("18: guest, behind 14 DAYS", 0, 9, 0, 2, (x, v) -> x.days(14) + x.where(v) - 1);
  }

  private static void wouldBe() {
    bounds("20: n", 0, 99, 0, 20, (x, v) -> x.then(v, 0, 1));
    bounds("20: cake", 0, 3, 2, 2, (x, v) -> x.then(2, v, 1));
    bounds("20: what", 0, 1, 2, 5, (x, v) -> x.then(5, 0, v));
    bounds("21: guest", 0, 9, 0, 14, (x, v) -> x.comes(v, 1));
    bounds("21: house", 0, 2, 5, 3, (x, v) -> x.comes(2, v));
    bounds("22: what", 0, 1, 2, 0, (x, v) -> x.clash(v));
    bounds("23: guest", 0, 9, Due.NONE, 2, (x, v) -> x.spares(v, 30));
    bounds("23: n", 0, 30, 0, 2, (x, v) -> x.spares(9, v));
    bounds("24: guest", 0, 9, 0, 1, (x, v) -> x.hurry(v, 1, 14));
    bounds("24: house", 0, 2, 1, 0, (x, v) -> x.hurry(2, v, 4));
    bounds("24: n", 0, 30, Due.NONE, 0, (x, v) -> x.hurry(9, 1, v));
    bounds("25: sheet", 0, 3, 2, 2, (x, v) -> x.fits(v));
  }

  private static void howFar() {
    bounds("26: cake", 0, 3, 985, 990, (x, v) -> x.howFar(v, -1, -1, 0, 0));
    bounds("26: now", -1, 9, 979, 7, (x, v) -> x.howFar(1, v, -1, 20, 0));
    bounds("26: then", -1, 9, 0, 7, (x, v) -> x.howFar(1, 0, v, 14, 0));
    bounds("26: n", 0, 20, 7, 0, (x, v) -> x.howFar(1, 0, 0, v, 0));
    bounds("26: what", 0, 1, 7, 14, (x, v) -> x.howFar(1, 9, 9, 0, v));
  }

  private static void lendsAndOdds() {
    bounds("27: house", 0, 2, 0, 2, (x, v) -> x.lends(v));
    bounds("28: guest", 0, 9, 1, 0, (x, v) -> x.odds(v, 1, 0, 0));
    bounds("28: house", 0, 2, 1, 0, (x, v) -> x.odds(1, v, 0, 0));
    bounds("28: n", 0, 99, 1, 3, (x, v) -> x.odds(0, 1, v, 0));
    bounds("28: part", 0, 1, 0, 1, (x, v) -> x.odds(9, 1, 0, v));
  }

  private static void voices() {
    bounds("30: cake", 0, 3, 6, -8, (x, v) -> x.voice(v, 2, 10));
    bounds("30: act", 0, 3, 33, 66 ^ 7, (x, v) -> x.voice(1, v, 10));
    for (int v : new int[] {-1, 4, Due.MIN, Due.MAX}) {
      refused("31: i", v, 2, (x, i) -> x.voice(1, 1, 0) - 6 + x.trace(i));
    }
    taken("31: i", 0, 11, (x, i) -> x.voice(1, 1, 0) - 6 + x.trace(i));
    taken("31: i", 2, 10, (x, i) -> x.voice(1, 1, 0) - 6 + x.trace(i));
    refused("31: i", 3, 2, (x, i) -> x.voice(1, 1, 0) - 6 + x.trace(i));
    refused("31: i without a voice", 0, 2, (x, i) -> x.trace(i));
  }

  private static void sheets() {
    bounds("32: sheet", 0, 3, 1, 1, (x, v) -> x.sheet(v, 8, 1));
    bounds("32: sheet, missing", 0, 3, 1, 1, (x, v) -> x.sheet(v, 0, 1));
    for (int bits : new int[] {8, 16, 32}) {
      bounds("32: bits", bits, bits, 1, 1, (x, v) -> x.sheet(0, v, 1));
      taken("32: n of " + bits + " bits", 0, 1, (x, v) -> x.sheet(0, bits, v));
      taken("32: n of " + bits + " bits", 40, 1, (x, v) -> x.sheet(0, bits, v));
      refused("32: n of " + bits + " bits", 41, 1, (x, v) -> x.sheet(0, bits, v));
      refused("32: n of " + bits + " bits", Due.MAX, 1, (x, v) -> x.sheet(0, bits, v));
      refused("32: n of " + bits + " bits", -1, 3, (x, v) -> x.sheet(0, bits, v));
      refused("32: n of " + bits + " bits", Due.MIN, 3, (x, v) -> x.sheet(0, bits, v));
    }
    bounds("32: 0 bits", 0, 0, 1, 1, (x, v) -> x.sheet(0, v, 1));
    for (int n : new int[] {-1, 41, Due.MIN, Due.MAX}) {
      taken("32: n of 0 bits", n, 1, (x, v) -> x.sheet(0, 0, v));
    }
    bounds("33: sheet", 0, 3, 1, 1, (x, v) -> x.put(v, 0, 1));
    bounds("33: i", 0, 2, 1, 1, (x, v) -> x.put(0, v, 1));
    bounds("34: sheet", 0, 3, 1, 1, (x, v) -> x.move(v, 0, 0, 0, 1));
    bounds("34: other", 0, 3, 1, 1, (x, v) -> x.move(0, 0, v, 0, 1));
    bounds("34: n", 0, 3, 0, 3, (x, v) -> x.move(0, 0, 3, 0, v));
    bounds("34: n from 2 on", 0, 1, 0, 1, (x, v) -> x.move(0, 2, 3, 0, v));
    bounds("34: n to 1", 0, 2, 0, 2, (x, v) -> x.move(0, 0, 3, 1, v));
    bounds("34: i", 0, 2, 1, 1, (x, v) -> x.move(0, v, 3, 0, 1));
    bounds("34: j", 0, 2, 1, 1, (x, v) -> x.move(0, 0, 3, v, 1));
    bounds("34: i, none", 0, 3, 0, 0, (x, v) -> x.move(0, v, 3, 0, 0));
    bounds("34: j, none", 0, 3, 0, 0, (x, v) -> x.move(0, 0, 3, v, 0));
    bounds("35: sheet", 0, 3, 3, 3, (x, v) -> x.worns(v));
    bounds("36: sheet", 0, 3, 0, 0, (x, v) -> x.judge(v));
    for (int s = 1; s <= 2; s++) {
      refused("25: missing", s, 2, (x, v) -> x.fits(v));
      refused("33: missing", s, 2, (x, v) -> x.put(v, 0, 1));
      refused("34: missing", s, 2, (x, v) -> x.move(v, 0, 0, 0, 1));
      refused("34: other missing", s, 2, (x, v) -> x.move(0, 0, v, 0, 1));
      refused("35: missing", s, 2, (x, v) -> x.worns(v));
      refused("36: missing", s, 2, (x, v) -> x.judge(v));
    }
  }

  private static void told() {
    bounds("41: what", 0, 9, 3, 1, (x, v) -> x.count(v));
    bounds("42: k", 1, 5, 0, 0, (x, v) -> x.told(v));
  }

  /** With 0 to 4 HOUSES: the last one is taken, none behind it is. */
  private static void placesInHouses() {
    for (int many = 0; many <= 4; many++) {
      inHouses("3: house", many, (x, v) -> x.ofHouse(v, 0));
      inHouses("4: house", many, (x, v) -> x.change(v, 0, 1));
      inHouses("5: house", many, (x, v) -> x.cake(0, v));
      inHouses("21: house", many, (x, v) -> x.comes(1, v));
      inHouses("24: house", many, (x, v) -> x.hurry(1, v, 1));
      inHouses("27: house", many, (x, v) -> x.lends(v));
      inHouses("28: house", many, (x, v) -> x.odds(1, v, 0, 0));
      if (many > 0) {
        inHouses("9: HOUSE", many, (x, v) -> x.cake(0, 0) + x.shift(0, 0, v));
      }
    }
  }

  private static void inHouses(String what, int many, Call call) {
    for (int v : new int[] {-1, 0, many - 1, many, 4}) {
      SoapNames x = new SoapNames();
      for (int i = 0; i < many; i++) {
        x.house(0);
      }
      boolean isBeyond = call.on(x, v) == Due.BEYOND;
      Due.due(what + " " + v + " of " + many, isBeyond ? 1 : 0, v < 0 || v >= many ? 1 : 0);
    }
  }

  /** With 0 to 6 cakes: the last one is taken, none behind it is. */
  private static void placesInCakes() {
    for (int many = 0; many <= 6; many++) {
      inCakes("6: cake", many, (x, v) -> x.ofCake(v, 0));
      inCakes("7: cake", many, (x, v) -> x.layer(v, 0));
      inCakes("8: cake", many, (x, v) -> x.named(v, 0));
      inCakes("9: cake", many, (x, v) -> x.shift(v, 1, 0));
      inCakes("11: cake", many, (x, v) -> x.become(v, 0));
      inCakes("12: cake", many, (x, v) -> x.as(v, 0));
      inCakes("20: cake", many, (x, v) -> x.then(0, v, 0));
      inCakes("26: cake", many, (x, v) -> x.howFar(v, -1, -1, 0, 0));
      inCakes("30: cake", many, (x, v) -> x.voice(v, 0, 0));
      if (many > 1) {
        inCakes("10: cake", many, (x, v) -> x.press(v, v == 0 ? 1 : 0));
        inCakes("10: other", many, (x, v) -> x.press(v == 0 ? 1 : 0, v));
      }
    }
  }

  private static void inCakes(String what, int many, Call call) {
    for (int v : new int[] {-1, 0, many - 1, many, 6}) {
      SoapNames x = new SoapNames();
      x.house(0);
      for (int i = 0; i < many; i++) {
        Due.cake(x, 0, 0, 1);
      }
      boolean isBeyond = call.on(x, v) == Due.BEYOND;
      Due.due(what + " " + v + " of " + many, isBeyond ? 1 : 0, v < 0 || v >= many ? 1 : 0);
    }
  }
}
