/** Promises 20 to 28. */
public final class WouldBeTest {
  public static void main(String[] args) {
    then();
    comes();
    clash();
    spares();
    hurry();
    fits();
    howFar();
    lends();
    odds();
    onlyThought();
    Due.end();
  }

  private static SoapNames twoHouses() {
    SoapNames x = new SoapNames();
    x.house(0);
    x.house(6);
    return x;
  }

  private static void then() {
    SoapNames x = twoHouses();
    Due.cake(x, 0, 1, 1, 2, -1, 4);
    Due.cake(x, 50, 0, 5, 6);
    Due.due("20: now", x.then(0, 0, 0), 1);
    Due.due("20: behind 1", x.then(1, 0, 0), 1);
    Due.due("20: behind 2", x.then(2, 0, 0), 2);
    Due.due("20: none", x.then(4, 0, 0), -1);
    Due.due("20: behind 6", x.then(6, 0, 0), 4);
    Due.due("20: GONE", x.then(7, 0, 0), -1);
    Due.due("20: WORN", x.then(6, 0, 1), 18);
    Due.due("20: WORN no more", x.then(99, 0, 1), 21);
    Due.due("20: of another cake", x.then(1, 1, 1), 2);
    Due.due("20: of another cake, SHOWS", x.then(1, 1, 0), 6);
    Due.due("20: n 100", x.then(100, 0, 0), Due.BEYOND);
    Due.due("20: n -1", x.then(-1, 0, 0), Due.BEYOND);
    Due.due("20: cake 2", x.then(0, 2, 0), Due.BEYOND);
    Due.due("20: cake -1", x.then(0, -1, 0), Due.BEYOND);
    Due.due("20: what 2", x.then(0, 0, 2), Due.BEYOND);
    Due.due("20: what -1", x.then(0, 0, -1), Due.BEYOND);
    Due.text(x, 1, "d");
    x.days(2);
    Due.due("20: by the DAY then", x.then(3, 0, 1), 1 + 2 + 3 + 4);
  }

  private static void comes() {
    SoapNames x = twoHouses();
    Due.cake(x, 0, 0, 1, 2, 3);
    Due.cake(x, 0, 0, 3);
    Due.cake(x, 0, 1, 7);
    Due.due("21: now", x.comes(1, 0), 0);
    Due.due("21: behind 5", x.comes(2, 0), 5);
    Due.due("21: by the other cake", x.comes(3, 0), 0);
    Due.due("21: not here", x.comes(1, 1), Due.NONE);
    Due.due("21: GUEST 0 is not nobody", x.comes(0, 0), Due.NONE);
    x.layer(2, 0);
    Due.due("21: GUEST 0", x.comes(0, 1), 2);
    Due.due("21: nobody's", x.comes(9, 0), Due.NONE);
    Due.due("21: guest 10", x.comes(10, 0), Due.BEYOND);
    Due.due("21: guest -1", x.comes(-1, 0), Due.BEYOND);
    Due.due("21: house 2", x.comes(1, 2), Due.BEYOND);
    Due.due("21: house -1", x.comes(1, -1), Due.BEYOND);
    Due.text(x, 0, "99");
    Due.due("21: behind 99", x.comes(2, 0), 99);
    Due.text(x, 1, "d>0");
    Due.due("21: behind 100", x.comes(2, 0), Due.NONE);
    x.days(1);
    Due.due("21: behind 99 again", x.comes(2, 0), 99);
  }

  private static void clash() {
    SoapNames x = twoHouses();
    Due.cake(x, 0, 0, 1, 2, 3);
    Due.cake(x, 0, 1, 4, 5, 5, 2, 3);
    Due.due("22: no HANDS there", x.change(1, 0, 0) + x.clash(0), 1 + Due.NONE);
    x.change(1, 0, 1);
    Due.due("22: when", x.clash(0), 5);
    Due.due("22: who", x.clash(1), 2);
    Due.cake(x, 0, 0, 0, 9);
    Due.cake(x, 0, 1, 8, 9, 9, 1);
    Due.due("22: the least", x.clash(1), 2);
    x.layer(2, 4);
    Due.cake(x, 0, 1, 9, 1, 9, 9);
    x.shift(0, 1, 2);
    x.shift(4, 1, 2);
    Due.due("22: when, another", x.clash(0), 1);
    Due.due("22: who, another", x.clash(1), 1);
    Due.due("22: what 2", x.clash(2), Due.BEYOND);
    Due.due("22: what -1", x.clash(-1), Due.BEYOND);
    SoapNames y = twoHouses();
    Due.text(y, 0, "99");
    Due.text(y, 1, "1");
    Due.cake(y, 0, 0, 1, 2);
    Due.cake(y, 0, 1, 3, 2);
    Due.due("22: behind 99", y.clash(0), 99);
    Due.due("22: behind 99, who", y.clash(1), 2);
    Due.cake(y, 10, 1, 9);
    y.shift(1, 0, 0);
    Due.due("22: in one HOUSE only", y.clash(1), Due.NONE);
    y.shift(1, 0, 1);
    Due.text(y, 1, "d>0");
    Due.due("22: behind 100", y.clash(0), Due.NONE);
    Due.due("22: behind 100, who", y.clash(1), Due.NONE);
  }

  private static void spares() {
    SoapNames x = new SoapNames();
    Due.due("23: no HOUSES", x.spares(0, 30), 0);
    for (int i = 0; i < 4; i++) {
      x.house(0);
    }
    Due.cake(x, 0, 1, 1, 2, 3);
    Due.cake(x, 0, 3, 1, 4, 2);
    Due.cake(x, 0, 2, 5, 3);
    Due.due("23: nobody has to", x.spares(9, 30), 0);
    Due.due("23: n 0", x.spares(1, 0), 0);
    Due.due("23: now", x.spares(1, 1), Due.NONE);
    Due.due("23: not by then", x.spares(2, 5), 0);
    Due.due("23: on the last of the DAYS", x.spares(2, 6), 2);
    Due.due("23: two", x.spares(2, 11), 2 + 8);
    Due.due("23: two others", x.spares(3, 30), 2 + 4);
    Due.due("23: one", x.spares(4, 30), 8);
    Due.due("23: guest 10", x.spares(10, 1), Due.BEYOND);
    Due.due("23: guest -1", x.spares(-1, 1), Due.BEYOND);
    Due.due("23: n 31", x.spares(1, 31), Due.BEYOND);
    Due.due("23: n -1", x.spares(1, -1), Due.BEYOND);
    x.change(1, 0, 0);
    Due.due("23: one that doesn't wash anyway", x.spares(2, 11), 8);
    Due.cake(x, 50, 0, 7, 8, 6);
    x.shift(3, 1, 0);
    Due.due("23: PRESSED wears without HANDS", x.spares(6, 30), Due.NONE);
    Due.due("23: PRESSED, less", x.spares(6, 2), 1);
  }

  private static void hurry() {
    SoapNames x = twoHouses();
    Due.cake(x, 0, 0, 1, 2, 3);
    Due.cake(x, 0, 1, 9, 8);
    Due.due("24: none more", x.hurry(2, 0, 6), 0);
    Due.due("24: one more", x.hurry(2, 0, 5), 1);
    Due.due("24: four more", x.hurry(2, 0, 2), 4);
    Due.due("24: nine more", x.hurry(3, 0, 2), 9);
    Due.due("24: n 1", x.hurry(2, 0, 1), Due.NONE);
    Due.due("24: n 1, now", x.hurry(1, 0, 1), 0);
    Due.due("24: n 0", x.hurry(1, 0, 0), Due.NONE);
    Due.due("24: of another HOUSE", x.hurry(9, 0, 30), Due.NONE);
    Due.due("24: in another HOUSE", x.hurry(8, 1, 2), 1);
    x.change(1, 0, 9);
    Due.text(x, 0, "54");
    Due.due("24: beyond 9", x.hurry(8, 1, 2), 9);
    Due.text(x, 0, "55");
    Due.due("24: not by 9", x.hurry(8, 1, 2), Due.NONE);
    Due.due("24: guest 10", x.hurry(10, 0, 1), Due.BEYOND);
    Due.due("24: guest -1", x.hurry(-1, 0, 1), Due.BEYOND);
    Due.due("24: house 2", x.hurry(0, 2, 1), Due.BEYOND);
    Due.due("24: house -1", x.hurry(0, -1, 1), Due.BEYOND);
    Due.due("24: n 31", x.hurry(0, 0, 31), Due.BEYOND);
    Due.due("24: n -1", x.hurry(0, 0, -1), Due.BEYOND);
    Due.due("24: n 30", x.hurry(0, 0, 30), Due.NONE);
  }

  private static void fits() {
    SoapNames x = twoHouses();
    Due.text(x, 0, "1");
    Due.text(x, 1, "1");
    Due.due("25: no cakes", x.sheet(0, 8, 0) * 10 + x.fits(0), 10);
    Due.cake(x, 0, 0, 1, 2, 3);
    Due.cake(x, 0, 1, 1, 2, -1);
    Due.cake(x, 0, 0, 1, 2);
    Due.cake(x, 0, 0, 2, 2, 3);
    Due.due("25: an empty SHEET", x.fits(0), 15);
    x.sheet(0, 8, 2);
    x.put(0, 0, 1);
    x.put(0, 1, 2);
    Due.due("25: two DAYS", x.fits(0), 1 + 2 + 4);
    x.sheet(0, 16, 3);
    x.put(0, 0, 1);
    x.put(0, 1, 2);
    x.put(0, 2, -1);
    Due.due("25: nobody", x.fits(0), 2 + 4);
    x.put(0, 2, 3);
    Due.due("25: three DAYS", x.fits(0), 1);
    x.put(0, 2, 9);
    Due.due("25: none", x.fits(0), 0);
    x.sheet(0, 16, 4);
    for (int i = 0; i < 4; i++) {
      x.put(0, i, i == 3 ? 3 : i + 1);
    }
    Due.due("25: the last one no more", x.fits(0), 0);
    x.sheet(1, 32, 1);
    x.put(1, 0, 2);
    Due.due("25: one DAY", x.fits(1), 8);
    x.put(1, 0, 10);
    Due.due("25: no GUEST", x.fits(1), 0);
    x.put(1, 0, 34);
    Due.due("25: no GUEST at all", x.fits(1), 0);
    x.put(1, 0, -2);
    Due.due("25: not nobody", x.fits(1), 0);
    Due.due("25: missing", x.fits(2), Due.NONE);
    Due.due("25: sheet 4", x.fits(4), Due.BEYOND);
    Due.due("25: sheet -1", x.fits(-1), Due.BEYOND);
    x.sheet(3, 8, 40);
    for (int i = 0; i < 40; i++) {
      x.put(3, i, i < 1 ? 1 : i == 1 ? 2 : -1);
    }
    Due.due("25: 40 DAYS", x.fits(3), 2 + 4);
    x.put(3, 39, 0);
    Due.due("25: not the last one", x.fits(3), 0);
  }

  private static void howFar() {
    SoapNames x = twoHouses();
    Due.cake(x, 0, 0, 1, 2, 1, 3);
    Due.due("26: how many", x.howFar(0, 1, 2, 3, 0), 3);
    Due.due("26: the least", x.howFar(0, 1, 2, 3, 1), 2);
    Due.due("26: now alone", x.howFar(0, 1, 1, 0, 0), 10);
    Due.due("26: now alone, the least", x.howFar(0, 1, 1, 0, 1), 0);
    Due.due("26: unlike ones now", x.howFar(0, 1, 2, 0, 0), 0);
    Due.due("26: unlike ones now, the least", x.howFar(0, 1, 2, 0, 1), Due.NONE);
    Due.due("26: GONE then", x.howFar(0, 3, -1, 2, 0), 2);
    Due.due("26: GONE then, the least", x.howFar(0, 3, -1, 2, 1), 18);
    Due.due("26: GONE", x.howFar(0, -1, -1, 20, 0), 980);
    Due.due("26: GONE, the least", x.howFar(0, -1, -1, 20, 1), 20);
    Due.due("26: behind 20", x.howFar(0, 1, -1, 20, 0), 10);
    Due.due("26: none from GONE", x.howFar(0, -1, 1, 5, 0), 0);
    x.shift(0, 1, 77);
    Due.due("26: whatever it is WORN", x.howFar(0, 2, 1, 5, 1), 5);
    Due.due("26: WORN stays", x.ofCake(0, 4), 77);
    Due.due("26: cake 1", x.howFar(1, 0, 0, 0, 0), Due.BEYOND);
    Due.due("26: cake -1", x.howFar(-1, 0, 0, 0, 0), Due.BEYOND);
    Due.due("26: now 10", x.howFar(0, 10, 0, 0, 0), Due.BEYOND);
    Due.due("26: now -2", x.howFar(0, -2, 0, 0, 0), Due.BEYOND);
    Due.due("26: then 10", x.howFar(0, 0, 10, 0, 0), Due.BEYOND);
    Due.due("26: then -2", x.howFar(0, 0, -2, 0, 0), Due.BEYOND);
    Due.due("26: n 21", x.howFar(0, 0, 0, 21, 0), Due.BEYOND);
    Due.due("26: n -1", x.howFar(0, 0, 0, -1, 0), Due.BEYOND);
    Due.due("26: what 2", x.howFar(0, 0, 0, 0, 2), Due.BEYOND);
    Due.due("26: what -1", x.howFar(0, 0, 0, 0, -1), Due.BEYOND);
    Due.text(x, 0, "99");
    x.become(0, 49);
    for (int i = 4; i < 8; i++) {
      x.layer(0, 4);
    }
    Due.due("26: to 999", x.howFar(0, 4, 4, 0, 0), 1000 - 4 * 157);
    Due.text(x, 1, "d");
    x.days(3);
    x.become(0, 0);
    Due.due("26: by the DAYS", x.howFar(0, 1, 2, 3, 0), 3 + 4 + 5);
    Due.due("26: by the DAYS, the least", x.howFar(0, 1, 2, 3, 1), 99 - 12);
    x.become(0, 32);
    Due.due("26: bribed", x.howFar(0, 1, -1, 3, 0), 12);
  }

  private static void lends() {
    SoapNames x = twoHouses();
    Due.due("27: no cakes", x.lends(0), Due.NONE);
    Due.cake(x, 0, 0, 1);
    Due.due("27: too few", x.lends(0), Due.NONE);
    Due.cake(x, 0, 0, 1);
    Due.due("27: alike", x.lends(1), Due.NONE);
    Due.cake(x, 0, 0, 2);
    Due.due("27: the first", x.lends(0), 0);
    Due.due("27: the other", x.lends(1), 2);
    x.house(0);
    Due.due("27: three of two", x.lends(2), Due.NONE);
    Due.cake(x, 0, 0, -1);
    Due.cake(x, 0, 0);
    Due.due("27: nobody, 0", x.lends(0), 0);
    Due.due("27: nobody, 1", x.lends(1), 2);
    Due.due("27: nobody, 2", x.lends(2), 3);
    x.house(0);
    Due.due("27: nobody and nobody", x.lends(3), 4);
    x.shift(2, 1, 5);
    Due.due("27: GONE is nobody, 1", x.lends(1), 2);
    Due.due("27: GONE is nobody, 2", x.lends(2), 3);
    Due.due("27: house 4", x.lends(4), Due.BEYOND);
    Due.due("27: house -1", x.lends(-1), Due.BEYOND);
    SoapNames y = twoHouses();
    y.house(0);
    Due.cake(y, 0, 0, 3);
    Due.cake(y, 0, 1, 3);
    Due.cake(y, 0, 2, 4);
    Due.cake(y, 0, 2, 4);
    Due.cake(y, 0, 2, 5);
    Due.due("27: back and on, 0", y.lends(0), 0);
    Due.due("27: back and on, 1", y.lends(1), 2);
    Due.due("27: back and on, 2", y.lends(2), 4);
    SoapNames z = twoHouses();
    Due.cake(z, 0, 0, 0);
    Due.cake(z, 0, 0, 0);
    Due.due("27: GUEST 0 twice", z.lends(0), Due.NONE);
    Due.cake(z, 0, 0, 1);
    Due.due("27: GUEST 0", z.lends(0) * 10 + z.lends(1), 2);
  }

  private static void odds() {
    SoapNames x = twoHouses();
    Due.cake(x, 0, 0, 1, 2, 3);
    Due.due("28: now", x.odds(1, 0, 0, 0) * 100 + x.odds(1, 0, 0, 1), 101);
    Due.due("28: never", x.odds(9, 0, 5, 0) * 100 + x.odds(9, 0, 5, 1), 1);
    // Behind 2 DAYS: 2 by WATER 0 to 2, 4 by 3 to 5, 6 by 6 to 8, 8 by 9.
    Due.due("28: six of ten", x.odds(1, 0, 2, 0) * 100 + x.odds(1, 0, 2, 1), 305);
    Due.due("28: four of ten", x.odds(2, 0, 2, 0) * 100 + x.odds(2, 0, 2, 1), 205);
    // Behind 3 DAYS: 3, 6, 9, 12.
    Due.due("28: one of ten", x.odds(3, 0, 3, 0) * 100 + x.odds(3, 0, 3, 1), 110);
    Due.due("28: three of ten", x.odds(1, 0, 3, 0) * 100 + x.odds(1, 0, 3, 1), 310);
    Due.text(x, 1, "w<5");
    Due.due("28: five of ten", x.odds(2, 0, 5, 0) * 100 + x.odds(2, 0, 5, 1), 102);
    Due.text(x, 1, "w>1");
    Due.due("28: eight of ten", x.odds(2, 0, 5, 0) * 100 + x.odds(2, 0, 5, 1), 405);
    Due.text(x, 1, "w>0");
    Due.due("28: nine of ten", x.odds(2, 0, 5, 0) * 100 + x.odds(2, 0, 5, 1), 910);
    Due.due("28: behind 99", x.odds(1, 0, 99, 0) * 100 + x.odds(1, 0, 99, 1), 110);
    Due.due("28: another HOUSE", x.odds(1, 1, 0, 0) * 100 + x.odds(1, 1, 0, 1), 1);
    Due.due("28: WATER stays", x.ofHouse(0, 1), 0);
    Due.due("28: guest 10", x.odds(10, 0, 0, 0), Due.BEYOND);
    Due.due("28: guest -1", x.odds(-1, 0, 0, 0), Due.BEYOND);
    Due.due("28: house 2", x.odds(0, 2, 0, 0), Due.BEYOND);
    Due.due("28: house -1", x.odds(0, -1, 0, 0), Due.BEYOND);
    Due.due("28: n 100", x.odds(0, 0, 100, 0), Due.BEYOND);
    Due.due("28: n -1", x.odds(0, 0, -1, 0), Due.BEYOND);
    Due.due("28: part 2", x.odds(0, 0, 0, 2), Due.BEYOND);
    Due.due("28: part -1", x.odds(0, 0, 0, -1), Due.BEYOND);
  }

  private static long state(SoapNames x) {
    long sum = 0;
    for (int what = 0; what <= 9; what++) {
      sum = sum * 31 + x.count(what);
    }
    for (int h = 0; h < 2; h++) {
      for (int what = 0; what <= 3; what++) {
        sum = sum * 31 + x.ofHouse(h, what);
      }
    }
    for (int c = 0; c < 2; c++) {
      for (int what = 0; what <= 8; what++) {
        sum = sum * 31 + x.ofCake(c, what);
      }
    }
    return sum;
  }

  private static void onlyThought() {
    SoapNames x = twoHouses();
    Due.cake(x, 0, 0, 1, 2, 3);
    Due.cake(x, 30, 1, 3, 2, 1);
    Due.text(x, 1, "1+(d>9999)*20");
    Due.feed(x, "m+");
    x.tell(5);
    x.sheet(0, 8, 9);
    for (int i = 0; i < 101; i++) {
      x.days(99);
    }
    x.shift(0, 1, 0);
    x.shift(1, 1, 0);
    long state = state(x);
    Due.due("20: DAY 9999", x.then(1, 0, 1), 1);
    Due.due("20: DAY beyond 9999", x.then(2, 0, 1), 22);
    x.comes(9, 0);
    x.clash(0);
    x.spares(2, 30);
    x.hurry(9, 0, 30);
    x.fits(0);
    x.howFar(0, 1, 2, 20, 0);
    x.lends(0);
    x.odds(1, 1, 99, 0);
    Due.so("20 to 28: what is only thought changes nothing", state == state(x));
  }
}
