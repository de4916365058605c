import java.util.ArrayList;
import java.util.List;

/**
 * Promises 2 to 42: a call that answers an ERROR changes nothing but what told() tells. Of two like
 * objects one takes the call; then all that can be seen of both is held together.
 */
public final class RefusedTest {
  private interface Call {
    int on(SoapNames x);
  }

  private interface Maker {
    SoapNames make();
  }

  private static final Maker FULL = RefusedTest::full;
  private static final Maker LATE = RefusedTest::late;
  private static final Maker POOR = RefusedTest::poor;

  public static void main(String[] args) {
    houses();
    cakes();
    presses();
    texts();
    days();
    thens();
    spares();
    sheetsThought();
    lendsAndOdds();
    voices();
    sheets();
    moves();
    images();
    Due.end();
  }

  /** Nothing more has room in it: HOUSES, cakes, a cake's LAYERS, THE TAPE, numbers that wait. */
  private static SoapNames full() {
    SoapNames x = unfed();
    SoapNames ahead = unfed();
    for (int i = 0; i < 20; i++) {
      x.tell(ahead.days(1));
    }
    Due.feed(x, "10+m+m+m+m+m+m+m+m+m+m+m+m+m+m+m+m+m+m+m+m+m+m+m+m");
    x.image();
    x.image();
    // Not as the IMAGE has it, so that a restore() would be seen.
    x.shift(1, 1, 4);
    x.seed(-77);
    x.days(1);
    return x;
  }

  private static SoapNames unfed() {
    SoapNames x = new SoapNames();
    for (int i = 0; i < 4; i++) {
      x.house(3 * i);
    }
    x.change(1, 0, 2);
    x.change(3, 0, 0);
    Due.cake(x, 4, 0, 1, 2, 3, 4, 5, 6, 7, 8);
    Due.cake(x, 13, 1, 2, 5);
    Due.cake(x, 25, 2);
    Due.cake(x, 32, 0, 2, 4);
    Due.cake(x, 46, 1, 3, -1);
    Due.cake(x, 57, 3, 1, 2);
    Due.text(x, 0, "m+k+n-3");
    Due.text(x, 1, "1+w/2+d%2");
    fill(x, 0, 8, 1, 2, 3);
    fill(x, 1, 16, 300, 2, 9);
    fill(x, 2, 32, 7, 9999);
    x.voice(4, 3, 5);
    x.seed(12);
    return x;
  }

  private static void fill(SoapNames x, int sheet, int bits, int... numbers) {
    x.sheet(sheet, bits, numbers.length);
    for (int i = 0; i < numbers.length; i++) {
      x.put(sheet, i, numbers[i]);
    }
  }

  /** On the last DAY. */
  private static SoapNames late() {
    SoapNames x = unfed();
    for (int i = 0; i < 101; i++) {
      x.days(99);
    }
    x.shift(0, 1, 5);
    x.shift(1, 1, 1);
    return x;
  }

  /** Two HOUSES, a cake, no IMAGE, no THE TRACE, one SHEET. */
  private static SoapNames poor() {
    SoapNames x = new SoapNames();
    x.house(0);
    x.house(5);
    Due.cake(x, 0, 0, 1, 2);
    fill(x, 0, 8, 1, 1);
    Due.feed(x, "m+n");
    x.tell(0);
    return x;
  }

  private static void refused(String what, int due, Maker maker, Call call) {
    SoapNames x = maker.make();
    SoapNames like = maker.make();
    Due.due(what, call.on(x), due);
    for (int k = 1; k <= 5; k++) {
      int more = -1000000000 - k == due ? 1 : 0;
      Due.due(what + ", told(" + k + ")", x.told(k) - like.told(k), more);
    }
    List<Integer> all = everything(x);
    List<Integer> wanted = everything(like);
    Due.so(what + " changes nothing:\n" + wanted + "\n" + all, all.equals(wanted));
  }

  private static void beyond(String what, Call call) {
    refused(what, Due.BEYOND, FULL, call);
  }

  private static List<Integer> everything(SoapNames x) {
    List<Integer> all = new ArrayList<>();
    addSheets(x, all);
    addState(x, all);
    addFed(x, all);
    all.add(x.restore());
    addState(x, all);
    addFed(x, all);
    all.add(x.image());
    return all;
  }

  private static void addState(SoapNames x, List<Integer> all) {
    for (int what = 0; what <= 9; what++) {
      all.add(x.count(what));
    }
    for (int h = 0; h < x.count(0); h++) {
      for (int what = 0; what <= 2; what++) {
        all.add(x.ofHouse(h, what));
      }
    }
    for (int c = 0; c < x.count(1); c++) {
      for (int what = 0; what <= 5; what++) {
        all.add(x.ofCake(c, what));
      }
      for (int i = 0; i < x.ofCake(c, 3); i++) {
        all.add(x.named(c, i));
      }
    }
    for (int i = 0; i < x.count(8); i++) {
      all.add(x.trace(i));
    }
    all.add(x.law(0, 20, 7, 3));
    all.add(x.law(1, 20, 7, 3));
  }

  /** The numbers that wait, THE TAPE as a TEXT. */
  private static void addFed(SoapNames x, List<Integer> all) {
    all.add(x.check());
    all.add(x.text(0));
    all.add(x.law(0, 2, 1, 1));
    all.add(x.law(0, 0, 1, 1));
  }

  /** WORN is put back behind it. */
  private static void addSheets(SoapNames x, List<Integer> all) {
    int cakes = x.count(1);
    for (int s = 0; s < 4; s++) {
      all.add(x.judge(s));
      all.add(x.fits(s));
      all.add(x.put(s, 0, 65541));
      all.add(x.worns(s));
      for (int c = 0; c < cakes; c++) {
        all.add(x.shift(c, 1, 0));
      }
      for (int i = 0; i < 4; i++) {
        all.add(x.move(s, 1, s, 0, i));
        all.add(x.worns(s));
        all.add(x.ofCake(0, 4));
      }
    }
  }

  private static void houses() {
    beyond("2: water", x -> x.house(-1));
    beyond("2: water", x -> x.house(10));
    refused("2: water", Due.BEYOND, POOR, x -> x.house(10));
    refused("2: FULL", Due.FULL, FULL, x -> x.house(9));
    beyond("3: house", x -> x.ofHouse(-1, 0));
    beyond("3: house", x -> x.ofHouse(4, 0));
    beyond("3: what", x -> x.ofHouse(0, -1));
    beyond("3: what", x -> x.ofHouse(0, 4));
    beyond("4: house", x -> x.change(-1, 0, 5));
    beyond("4: house", x -> x.change(4, 0, 5));
    beyond("4: what", x -> x.change(0, -1, 5));
    beyond("4: what", x -> x.change(0, 2, 5));
    beyond("4: HANDS", x -> x.change(0, 0, -1));
    beyond("4: HANDS", x -> x.change(0, 0, 10));
    beyond("4: WATER", x -> x.change(0, 1, -1));
    beyond("4: WATER", x -> x.change(0, 1, 10));
  }

  private static void cakes() {
    beyond("5: km", x -> x.cake(-1, 0));
    beyond("5: km", x -> x.cake(70, 0));
    beyond("5: house", x -> x.cake(0, -1));
    beyond("5: house", x -> x.cake(0, 4));
    refused("5: km", Due.BEYOND, POOR, x -> x.cake(70, 0));
    refused("5: house", Due.BEYOND, POOR, x -> x.cake(0, 2));
    refused("5: FULL", Due.FULL, FULL, x -> x.cake(5, 1));
    beyond("6: cake", x -> x.ofCake(-1, 0));
    beyond("6: cake", x -> x.ofCake(6, 0));
    beyond("6: what", x -> x.ofCake(0, -1));
    beyond("6: what", x -> x.ofCake(0, 9));
    beyond("7: cake", x -> x.layer(-1, 1));
    beyond("7: cake", x -> x.layer(6, 1));
    beyond("7: name", x -> x.layer(1, -2));
    beyond("7: name", x -> x.layer(1, 10));
    refused("7: FULL", Due.FULL, FULL, x -> x.layer(0, 9));
    beyond("8: cake", x -> x.named(-1, 0));
    beyond("8: cake", x -> x.named(6, 0));
    beyond("8: i", x -> x.named(0, -1));
    beyond("8: i", x -> x.named(0, 8));
    beyond("9: cake", x -> x.shift(-1, 1, 3));
    beyond("9: cake", x -> x.shift(6, 1, 3));
    beyond("9: what", x -> x.shift(0, -1, 1));
    beyond("9: what", x -> x.shift(0, 2, 1));
    beyond("9: HOUSE", x -> x.shift(0, 0, -1));
    beyond("9: HOUSE", x -> x.shift(0, 0, 4));
    beyond("9: WORN", x -> x.shift(0, 1, -1));
    beyond("9: WORN", x -> x.shift(0, 1, 10000));
  }

  private static void presses() {
    beyond("10: cake", x -> x.press(-1, 1));
    beyond("10: cake", x -> x.press(6, 1));
    beyond("10: other", x -> x.press(1, -1));
    beyond("10: other", x -> x.press(1, 6));
    beyond("10: one and the same", x -> x.press(1, 1));
    refused("10: STATE, no LAYERS", Due.STATE, FULL, x -> x.press(2, 1));
    refused("10: STATE", Due.STATE, LATE, x -> x.press(3, 1));
    beyond("11: cake", x -> x.become(-1, 0));
    beyond("11: cake", x -> x.become(6, 0));
    beyond("11: km", x -> x.become(1, -1));
    beyond("11: km", x -> x.become(1, 70));
    beyond("12: cake", x -> x.as(-1, 0));
    beyond("12: cake", x -> x.as(6, 0));
    beyond("12: kind", x -> x.as(1, -1));
    beyond("12: kind", x -> x.as(1, 7));
    refused("12: KIND", Due.KIND, FULL, x -> x.as(1, 4));
  }

  private static void texts() {
    beyond("13: n", x -> x.feed('9', 0));
    beyond("13: n", x -> x.feed('9', 9));
    refused("13: n", Due.BEYOND, POOR, x -> x.feed('9', 0));
    refused("13: n", Due.BEYOND, POOR, x -> x.feed('9', 9));
    refused("13: FULL", Due.FULL, FULL, x -> x.feed('9', 1));
    beyond("14: use", x -> x.text(-1));
    beyond("14: use", x -> x.text(2));
    beyond("15: use", x -> x.law(-1, 1, 1, 1));
    beyond("15: use", x -> x.law(2, 1, 1, 1));
  }

  private static void days() {
    beyond("16: n", x -> x.days(0));
    beyond("16: n", x -> x.days(100));
    refused("16: STATE", Due.STATE, LATE, x -> x.days(1));
    refused("16: STATE", Due.STATE, LATE, x -> x.days(99));
    beyond("17: n", x -> x.loose(0));
    beyond("17: n", x -> x.loose(41));
    refused("17: STATE", Due.STATE, LATE, x -> x.loose(1));
    refused("17: STATE", Due.STATE, LATE, x -> x.loose(40));
    beyond("18: guest", x -> x.where(-1));
    beyond("18: guest", x -> x.where(10));
  }

  private static void thens() {
    beyond("20: n", x -> x.then(-1, 0, 0));
    beyond("20: n", x -> x.then(100, 0, 0));
    beyond("20: cake", x -> x.then(1, -1, 0));
    beyond("20: cake", x -> x.then(1, 6, 0));
    beyond("20: what", x -> x.then(1, 0, -1));
    beyond("20: what", x -> x.then(1, 0, 2));
    beyond("21: guest", x -> x.comes(-1, 0));
    beyond("21: guest", x -> x.comes(10, 0));
    beyond("21: house", x -> x.comes(1, -1));
    beyond("21: house", x -> x.comes(1, 4));
    refused("21: NONE", Due.NONE, FULL, x -> x.comes(9, 0));
    beyond("22: what", x -> x.clash(-1));
    beyond("22: what", x -> x.clash(2));
    refused("22: NONE", Due.NONE, POOR, x -> x.clash(0));
    refused("22: NONE", Due.NONE, POOR, x -> x.clash(1));
  }

  private static void spares() {
    beyond("23: guest", x -> x.spares(-1, 1));
    beyond("23: guest", x -> x.spares(10, 1));
    beyond("23: n", x -> x.spares(1, -1));
    beyond("23: n", x -> x.spares(1, 31));
    refused("23: NONE", Due.NONE, FULL, x -> x.spares(2, 30));
    beyond("24: guest", x -> x.hurry(-1, 0, 1));
    beyond("24: guest", x -> x.hurry(10, 0, 1));
    beyond("24: house", x -> x.hurry(1, -1, 1));
    beyond("24: house", x -> x.hurry(1, 4, 1));
    beyond("24: n", x -> x.hurry(1, 0, -1));
    beyond("24: n", x -> x.hurry(1, 0, 31));
    refused("24: NONE", Due.NONE, FULL, x -> x.hurry(9, 0, 30));
  }

  private static void sheetsThought() {
    beyond("25: sheet", x -> x.fits(-1));
    beyond("25: sheet", x -> x.fits(4));
    refused("25: NONE", Due.NONE, FULL, x -> x.fits(3));
    beyond("26: cake", x -> x.howFar(-1, 1, 2, 1, 0));
    beyond("26: cake", x -> x.howFar(6, 1, 2, 1, 0));
    beyond("26: now", x -> x.howFar(0, -2, 2, 1, 0));
    beyond("26: now", x -> x.howFar(0, 10, 2, 1, 0));
    beyond("26: then", x -> x.howFar(0, 1, -2, 1, 0));
    beyond("26: then", x -> x.howFar(0, 1, 10, 1, 0));
    beyond("26: n", x -> x.howFar(0, 1, 2, -1, 0));
    beyond("26: n", x -> x.howFar(0, 1, 2, 21, 0));
    beyond("26: what", x -> x.howFar(0, 1, 2, 1, -1));
    beyond("26: what", x -> x.howFar(0, 1, 2, 1, 2));
    refused("26: NONE", Due.NONE, FULL, x -> x.howFar(0, 9, 2, 1, 1));
  }

  private static void lendsAndOdds() {
    beyond("27: house", x -> x.lends(-1));
    beyond("27: house", x -> x.lends(4));
    refused("27: NONE", Due.NONE, POOR, x -> x.lends(0));
    refused("27: NONE", Due.NONE, POOR, x -> x.lends(1));
    beyond("28: guest", x -> x.odds(-1, 0, 1, 0));
    beyond("28: guest", x -> x.odds(10, 0, 1, 0));
    beyond("28: house", x -> x.odds(1, -1, 1, 0));
    beyond("28: house", x -> x.odds(1, 4, 1, 0));
    beyond("28: n", x -> x.odds(1, 0, -1, 0));
    beyond("28: n", x -> x.odds(1, 0, 100, 0));
    beyond("28: part", x -> x.odds(1, 0, 1, -1));
    beyond("28: part", x -> x.odds(1, 0, 1, 2));
  }

  private static void voices() {
    beyond("30: cake", x -> x.voice(-1, 0, 1));
    beyond("30: cake", x -> x.voice(6, 0, 1));
    beyond("30: act", x -> x.voice(0, -1, 1));
    beyond("30: act", x -> x.voice(0, 4, 1));
    refused("31: i", Due.NONE, FULL, x -> x.trace(-1));
    refused("31: i", Due.NONE, FULL, x -> x.trace(8));
    refused("31: i", Due.NONE, FULL, x -> x.trace(40));
    refused("31: no TRACE", Due.NONE, POOR, x -> x.trace(0));
  }

  private static void sheets() {
    beyond("32: sheet", x -> x.sheet(-1, 8, 2));
    beyond("32: sheet", x -> x.sheet(4, 8, 2));
    beyond("32: sheet, missing", x -> x.sheet(4, 0, 2));
    beyond("32: bits", x -> x.sheet(0, 1, 2));
    beyond("32: bits", x -> x.sheet(0, 64, 2));
    beyond("32: n", x -> x.sheet(0, 16, 41));
    beyond("32: n, missing ahead", x -> x.sheet(3, 16, 41));
    refused("32: STATE", Due.STATE, FULL, x -> x.sheet(0, 16, -1));
    refused("32: STATE, missing ahead", Due.STATE, FULL, x -> x.sheet(3, 8, -1));
    beyond("33: sheet", x -> x.put(-1, 0, 5));
    beyond("33: sheet", x -> x.put(4, 0, 5));
    refused("33: NONE", Due.NONE, FULL, x -> x.put(3, 0, 5));
    beyond("33: i", x -> x.put(0, -1, 5));
    beyond("33: i", x -> x.put(0, 3, 5));
    beyond("35: sheet", x -> x.worns(-1));
    beyond("35: sheet", x -> x.worns(4));
    refused("35: NONE", Due.NONE, FULL, x -> x.worns(3));
    beyond("36: sheet", x -> x.judge(-1));
    beyond("36: sheet", x -> x.judge(4));
    refused("36: NONE", Due.NONE, FULL, x -> x.judge(3));
  }

  private static void moves() {
    beyond("34: sheet", x -> x.move(-1, 0, 0, 0, 1));
    beyond("34: sheet", x -> x.move(4, 0, 0, 0, 1));
    beyond("34: other", x -> x.move(0, 0, -1, 0, 1));
    beyond("34: other", x -> x.move(0, 0, 4, 0, 1));
    refused("34: NONE", Due.NONE, FULL, x -> x.move(3, 0, 0, 0, 1));
    refused("34: NONE", Due.NONE, FULL, x -> x.move(0, 0, 3, 0, 1));
    refused("34: KIND", Due.KIND, FULL, x -> x.move(0, 0, 1, 0, 1));
    refused("34: KIND", Due.KIND, FULL, x -> x.move(2, 0, 1, 0, 1));
    beyond("34: n", x -> x.move(0, 1, 0, 0, -1));
    beyond("34: i", x -> x.move(0, -1, 0, 0, 1));
    beyond("34: j", x -> x.move(0, 1, 0, -1, 1));
    beyond("34: not so many there", x -> x.move(0, 1, 0, 0, 3));
    beyond("34: no room", x -> x.move(0, 0, 0, 1, 3));
    beyond("34: n MAX", x -> x.move(0, 1, 0, 0, Due.MAX));
  }

  private static void images() {
    refused("38: NONE", Due.NONE, POOR, x -> x.restore());
    refused("39: FULL", Due.FULL, FULL, x -> x.tell(0));
    beyond("41: what", x -> x.count(-1));
    beyond("41: what", x -> x.count(10));
    beyond("42: k", x -> x.told(0));
    beyond("42: k", x -> x.told(6));
    beyond("42: k", x -> x.told(-1));
  }
}
