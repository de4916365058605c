/** Promises 37 to 42. */
public final class ImagesTest {
  public static void main(String[] args) {
    image();
    whatAnImageHolds();
    whatItDoesNotHold();
    tell();
    check();
    count();
    told();
    Due.end();
  }

  private static void image() {
    SoapNames x = new SoapNames();
    Due.due("38: none", x.restore(), Due.NONE);
    x.days(7);
    Due.due("37: once", x.image(), 1);
    x.days(2);
    Due.due("38: DAY", x.restore(), 7);
    Due.due("38: DAY then", x.count(2), 7);
    x.days(5);
    Due.due("38: it stays", x.restore(), 7);
    Due.due("37: twice", x.image(), 2);
    x.days(1);
    Due.due("37: in place of the one ahead", x.image(), 3);
    x.days(1);
    Due.due("38: the latest", x.restore(), 8);
    Due.due("37: how often is not taken back", x.image(), 4);
  }

  private static void whatAnImageHolds() {
    SoapNames x = new SoapNames();
    x.house(3);
    Due.cake(x, 14, 0, 1, 2, 3);
    Due.text(x, 0, "m+n");
    Due.text(x, 1, "w+1");
    Due.feed(x, "d+");
    x.tell(1);
    x.tell(2);
    x.seed(99);
    x.shift(0, 1, 3);
    x.image();

    x.change(0, 0, 5);
    x.change(0, 1, 5);
    x.house(5);
    x.become(0, 25);
    x.shift(0, 0, 1);
    x.shift(0, 1, 2);
    x.layer(0, 4);
    x.cake(0, 1);
    Due.text(x, 0, "9");
    Due.text(x, 1, "9");
    Due.text(x, 0, "9");
    Due.text(x, 1, "9");
    Due.feed(x, "99999");
    x.check();
    x.tell(7);
    x.seed(1);
    Due.due("37: an IMAGE is not touched by what comes behind", x.law(0, 2, 2, 2), 9);

    x.restore();
    Due.due("38: HOUSES", x.count(0), 1);
    Due.due("38: cakes", x.count(1), 1);
    Due.due("38: HANDS", x.ofHouse(0, 0), 1);
    Due.due("38: WATER", x.ofHouse(0, 1), 3);
    Due.due("38: KIND", x.ofCake(0, 0), 1);
    Due.due("38: m", x.ofCake(0, 1), 4);
    Due.due("38: HOUSE", x.ofCake(0, 2), 0);
    Due.due("38: LAYERS", x.ofCake(0, 3), 3);
    Due.due("38: WORN", x.ofCake(0, 4), 3);
    Due.due("38: THICK", x.ofCake(0, 5), 10);
    Due.due("38: NAME", x.named(0, 2), 3);
    Due.due("38: TEXT of THICK", x.law(0, 7, 0, 6), 13);
    Due.due("38: TEXT of WEAR", x.law(1, 7, 0, 6), 8);
    Due.due("38: bytes of THE TAPE", x.count(6), 2);
    Due.feed(x, "w");
    Due.due("38: THE TAPE", x.text(1), 1);
    Due.due("38: THE TAPE's TEXT", x.law(1, 7, 0, 6), 13);
    Due.due("38: numbers that wait", x.count(7), 2);
    Due.due("38: what they are", x.check(), 1);
    Due.due("38: z", x.count(9), 99);

    x.become(0, 69);
    Due.cake(x, 0, 0, 5);
    x.house(7);
    x.restore();
    Due.due("38: again, KIND", x.ofCake(0, 0), 1);
    Due.due("38: again, TEXT", x.law(1, 7, 0, 6), 8);
    Due.due("38: again, HOUSES", x.count(0), 1);
    Due.due("38: again, numbers that wait", x.count(7), 2);
    x.house(2);
    Due.due("38: a HOUSE anew", x.ofHouse(1, 0) * 10 + x.ofHouse(1, 1), 12);
    Due.cake(x, 0, 0, 3);
    x.shift(1, 1, 9);
    x.restore();
    x.cake(25, 0);
    int[] due = {2, 5, 0, 0, 0};
    for (int what = 0; what < due.length; what++) {
      Due.due("38: a cake anew, what " + what, x.ofCake(1, what), due[what]);
    }
  }

  private static void whatItDoesNotHold() {
    SoapNames x = new SoapNames();
    x.house(0);
    Due.cake(x, 0, 0, 4);
    x.voice(0, 0, 1);
    x.sheet(0, 8, 1);
    x.image();
    x.voice(0, 3, 1);
    x.put(0, 0, 4);
    x.sheet(1, 8, 1);
    x.house(99);
    x.restore();
    Due.due("38: THE TRACE stays", x.count(8), 4);
    Due.due("38: SHEETS stay", x.judge(0), -1);
    Due.due("38: SHEETS that came stay", x.judge(1), 0);
    Due.due("38: what told() tells stays", x.told(1), 1);
  }

  private static void tell() {
    SoapNames x = new SoapNames();
    for (int i = 1; i <= 20; i++) {
      Due.due("39: number " + i, x.tell(Due.MIN + i), i);
    }
    Due.due("39: FULL", x.tell(0), Due.FULL);
    Due.due("39: 20 wait", x.count(7), 20);
    x.check();
    Due.due("39: none waits", x.tell(0), 1);
  }

  private static void check() {
    SoapNames x = new SoapNames();
    x.house(0);
    Due.due("40: none", x.check(), 0);
    Due.cake(x, 0, 0, 1);
    Due.cake(x, 0, 0, 1);
    x.shift(1, 1, 3);
    int[] gone = {0, 1, 1, 1, 2, 2};
    for (int wrong = 0; wrong <= 6; wrong++) {
      for (int i = 0; i < 6; i++) {
        x.tell(i < wrong ? gone[i] : i == wrong ? gone[i] + 1 : -5);
      }
      Due.due("40: the first that isn't so", x.check(), wrong == 6 ? 0 : wrong + 1);
      Due.due("40: none waits then", x.count(7), 0);
    }
    Due.due("40: only thought", x.ofCake(0, 4) + x.count(2), 0);
    for (int i = 0; i < 20; i++) {
      x.tell(i == 19 ? 3 : i < 1 ? 0 : i < 4 ? 1 : 2);
    }
    Due.due("40: the last of 20", x.check(), 20);
  }

  private static void count() {
    SoapNames x = new SoapNames();
    x.house(0);
    x.house(6);
    x.change(1, 0, 7);
    Due.cake(x, 0, 0, 1);
    Due.cake(x, 0, 1, 1);
    Due.cake(x, 0, 1);
    x.days(2);
    Due.feed(x, "abc");
    x.tell(4);
    x.voice(0, 1, 0);
    x.seed(-5);
    int[] due = {2, 3, 2, 2, 8, 23, 3, 1, 2, -5};
    for (int what = 0; what < due.length; what++) {
      Due.due("41: what " + what, x.count(what), due[what]);
    }
    Due.due("41: what 10", x.count(10), Due.BEYOND);
    Due.due("41: what -1", x.count(-1), Due.BEYOND);
  }

  private static void told() {
    SoapNames x = new SoapNames();
    x.house(0);
    x.cake(0, 0);
    Due.due("42: k 0", x.told(0), Due.BEYOND);
    Due.due("42: k 6", x.told(6), Due.BEYOND);
    Due.due("42: counted, too", x.told(1), 2);
    x.judge(0);
    x.judge(1);
    x.judge(2);
    x.press(0, 0);
    x.house(-1);
    x.sheet(0, 8, -1);
    x.as(0, 3);
    x.as(0, 2);
    x.as(0, 1);
    x.as(0, 4);
    for (int i = 0; i < 8; i++) {
      x.house(1);
    }
    Due.due("42: BEYOND", x.told(1), 4);
    Due.due("42: NONE", x.told(2), 3);
    Due.due("42: STATE", x.told(3), 1);
    Due.due("42: FULL", x.told(4), 5);
    Due.due("42: KIND", x.told(5), 4);
    Due.due("42: what it tells counts nothing", x.told(1), 4);
    Due.due("42: k MAX", x.told(Due.MAX), Due.BEYOND);
    Due.due("42: k MIN", x.told(Due.MIN), Due.BEYOND);
    Due.due("42: BEYOND then", x.told(1), 6);
  }
}
