/** Promises 32 to 36. */
public final class SheetsTest {
  public static void main(String[] args) {
    sheet();
    put();
    move();
    moveErrors();
    worns();
    judge();
    Due.end();
  }

  /** Six cakes in a HOUSE that SHOW 1, 2, .. */
  private static SoapNames sixCakes() {
    SoapNames x = new SoapNames();
    x.house(0);
    for (int i = 0; i < 6; i++) {
      Due.cake(x, 0, 0, i + 1);
    }
    return x;
  }

  private static void fill(SoapNames x, int sheet, int bits, int... numbers) {
    x.sheet(sheet, bits, numbers.length);
    for (int i = 0; i < numbers.length; i++) {
      x.put(sheet, i, numbers[i]);
    }
  }

  /** Whether six numbers of a SHEET are these (0 to 9999), by way of WORN. */
  private static void six(String what, SoapNames x, int sheet, int... due) {
    Due.due(what + ": how many", x.worns(sheet), due.length);
    for (int i = 0; i < due.length; i++) {
      Due.due(what + ": number " + i, x.ofCake(i, 4), due[i]);
    }
  }

  private static void sheet() {
    SoapNames x = sixCakes();
    Due.due("32: sheet 4", x.sheet(4, 8, 1), Due.BEYOND);
    Due.due("32: sheet -1", x.sheet(-1, 8, 1), Due.BEYOND);
    Due.due("32: sheet 4, missing", x.sheet(4, 0, 1), Due.BEYOND);
    Due.due("32: 7 bits", x.sheet(0, 7, 1), Due.BEYOND);
    Due.due("32: 64 bits", x.sheet(0, 64, 1), Due.BEYOND);
    Due.due("32: -8 bits", x.sheet(0, -8, 1), Due.BEYOND);
    Due.due("32: n -1", x.sheet(0, 8, -1), Due.STATE);
    Due.due("32: n MIN", x.sheet(0, 8, Due.MIN), Due.STATE);
    Due.due("32: n 41", x.sheet(0, 8, 41), Due.BEYOND);
    Due.due("32: BEYOND of bits ahead of STATE", x.sheet(0, 9, -1), Due.BEYOND);
    Due.due("32: BEYOND of the SHEET ahead of STATE", x.sheet(4, 8, -1), Due.BEYOND);
    Due.due("32: still missing", x.judge(0), Due.NONE);
    Due.due("32: n 40", x.sheet(0, 8, 40), 1);
    Due.due("32: its last number", x.put(0, 39, 1), 1);
    Due.due("32: none behind", x.put(0, 40, 1), Due.BEYOND);
    Due.due("32: n 0", x.sheet(1, 16, 0), 1);
    Due.due("32: no number", x.put(1, 0, 1), Due.BEYOND);
    Due.due("32: 32 bits", x.sheet(3, 32, 6), 1);
    x.put(3, 2, 9);
    six("32: numbers", x, 3, 0, 0, 9, 0, 0, 0);
    Due.due("32: anew", x.sheet(3, 32, 6), 1);
    six("32: all 0", x, 3, 0, 0, 0, 0, 0, 0);
    Due.due("32: an ERROR leaves it", x.sheet(3, 8, -1) + x.put(3, 5, 1), Due.STATE + 1);
    Due.due("32: missing, n -1", x.sheet(3, 0, -1), 1);
    Due.due("32: missing then", x.put(3, 0, 1), Due.NONE);
    Due.due("32: missing, n MAX", x.sheet(0, 0, Due.MAX), 1);
    Due.due("32: missing again", x.sheet(0, 0, 3), 1);
    Due.due("32: missing still", x.fits(0), Due.NONE);
  }

  private static void put() {
    SoapNames x = sixCakes();
    Due.due("33: sheet 4", x.put(4, 0, 0), Due.BEYOND);
    Due.due("33: sheet -1", x.put(-1, 0, 0), Due.BEYOND);
    Due.due("33: missing", x.put(0, 0, 0), Due.NONE);
    Due.due("33: missing ahead of no such number", x.put(0, -1, 0), Due.NONE);
    fill(x, 0, 8, 127, 128, 256, 257, -1, 1);
    Due.due("33: 8 bits, 128 is less than 0", x.worns(0), 1);
    Due.due("33: 8 bits, 127", x.ofCake(0, 4), 127);
    fill(x, 0, 8, 383, 256, 257, 0x7fffff7f, 512, -255);
    six("33: 8 bits", x, 0, 127, 0, 1, 127, 0, 1);
    fill(x, 1, 16, 9999, 65536, 65537, -65535, 0x7fff0007, 0x10000 + 256);
    six("33: 16 bits", x, 1, 9999, 0, 1, 1, 7, 256);
    fill(x, 1, 16, 0x8000);
    Due.due("33: 16 bits, less than 0", x.worns(1), 0);
    fill(x, 2, 32, 9999, 1, 65536);
    Due.due("33: 32 bits", x.worns(2), 2);
    Due.due("33: i 3", x.put(2, 3, 0), Due.BEYOND);
    Due.due("33: i -1", x.put(2, -1, 0), Due.BEYOND);
    Due.due("33: i MAX", x.put(2, Due.MAX, 0), Due.BEYOND);
    Due.due("33: the last", x.put(2, 2, 0), 1);
  }

  private static void move() {
    SoapNames x = sixCakes();
    fill(x, 0, 16, 1, 2, 3, 4, 5, 6);
    fill(x, 1, 16, 10, 20, 30, 40, 50, 60);
    Due.due("34: three", x.move(0, 1, 1, 3, 3), 3);
    six("34: to another", x, 1, 10, 20, 30, 2, 3, 4);
    six("34: from one that stays", x, 0, 1, 2, 3, 4, 5, 6);
    Due.due("34: on", x.move(0, 0, 0, 1, 5), 5);
    six("34: on, as they all were", x, 0, 1, 1, 2, 3, 4, 5);
    Due.due("34: back", x.move(0, 2, 0, 0, 4), 4);
    six("34: back, as they all were", x, 0, 2, 3, 4, 5, 4, 5);
    Due.due("34: all", x.move(1, 0, 0, 0, 6), 6);
    six("34: all of them", x, 0, 10, 20, 30, 2, 3, 4);
    Due.due("34: none", x.move(1, 6, 0, 6, 0), 0);
    Due.due("34: none at 0", x.move(1, 0, 0, 0, 0), 0);
    fill(x, 2, 8, 127, 1);
    fill(x, 3, 8, 5, 6, 7);
    Due.due("34: 8 bits", x.move(2, 0, 3, 1, 2), 2);
    six("34: of 8 bits", x, 3, 5, 127, 1);
  }

  private static void moveErrors() {
    SoapNames x = sixCakes();
    fill(x, 0, 16, 1, 2, 3);
    fill(x, 1, 16, 4, 5, 6, 7);
    fill(x, 2, 8, 1, 2, 3);
    Due.due("34: sheet 4", x.move(4, 0, 0, 0, 1), Due.BEYOND);
    Due.due("34: sheet -1", x.move(-1, 0, 0, 0, 1), Due.BEYOND);
    Due.due("34: other 4", x.move(0, 0, 4, 0, 1), Due.BEYOND);
    Due.due("34: other -1", x.move(0, 0, -1, 0, 1), Due.BEYOND);
    Due.due("34: BEYOND ahead of NONE", x.move(3, 0, 4, 0, 1), Due.BEYOND);
    Due.due("34: missing", x.move(3, 0, 0, 0, 1), Due.NONE);
    Due.due("34: other missing", x.move(0, 0, 3, 0, 1), Due.NONE);
    Due.due("34: NONE ahead of BEYOND", x.move(0, -1, 3, 0, 1), Due.NONE);
    Due.due("34: unlike bits", x.move(0, 0, 2, 0, 1), Due.KIND);
    Due.due("34: KIND ahead of BEYOND", x.move(0, 9, 2, 0, -1), Due.KIND);
    Due.due("34: n -1", x.move(0, 0, 1, 0, -1), Due.BEYOND);
    Due.due("34: i -1", x.move(0, -1, 1, 0, 1), Due.BEYOND);
    Due.due("34: j -1", x.move(0, 0, 1, -1, 1), Due.BEYOND);
    Due.due("34: not so many there", x.move(0, 1, 1, 0, 3), Due.BEYOND);
    Due.due("34: no room for them", x.move(0, 0, 1, 2, 3), Due.BEYOND);
    Due.due("34: i behind the end", x.move(0, 4, 1, 0, 0), Due.BEYOND);
    Due.due("34: j behind the end", x.move(0, 0, 1, 5, 0), Due.BEYOND);
    Due.due("34: i MAX", x.move(0, Due.MAX, 1, 0, 1), Due.BEYOND);
    Due.due("34: j MAX", x.move(0, 0, 1, Due.MAX, Due.MAX), Due.BEYOND);
    Due.due("34: n MAX", x.move(0, 1, 1, 1, Due.MAX), Due.BEYOND);
    Due.due("34: all MIN", x.move(0, Due.MIN, 1, Due.MIN, Due.MIN), Due.BEYOND);
    six("34: nothing moved", x, 1, 4, 5, 6, 7);
  }

  private static void worns() {
    SoapNames x = sixCakes();
    Due.due("35: sheet 4", x.worns(4), Due.BEYOND);
    Due.due("35: sheet -1", x.worns(-1), Due.BEYOND);
    Due.due("35: missing", x.worns(0), Due.NONE);
    x.sheet(0, 8, 0);
    Due.due("35: empty", x.worns(0), 0);
    fill(x, 0, 32, 9999, 0, 10000, 3);
    Due.due("35: up to 10000", x.worns(0), 2);
    Due.due("35: 9999", x.ofCake(0, 4), 9999);
    Due.due("35: the rest stays", x.ofCake(3, 4), 0);
    fill(x, 0, 32, 4, -1, 5);
    Due.due("35: up to -1", x.worns(0), 1);
    Due.due("35: the first one", x.ofCake(0, 4), 4);
    fill(x, 0, 32, 1, 2, 3, 4, 5, 6, 7, -9);
    Due.due("35: up to the last cake", x.worns(0), 6);
    Due.due("35: the last cake", x.ofCake(5, 4), 6);
    Due.due("35: no ERROR", x.told(1) + x.told(2), 3);
  }

  private static void judge() {
    SoapNames x = sixCakes();
    Due.due("36: sheet 4", x.judge(4), Due.BEYOND);
    Due.due("36: sheet -1", x.judge(-1), Due.BEYOND);
    Due.due("36: missing", x.judge(0), Due.NONE);
    fill(x, 0, 8, 1, 2, 3, 4, 5, 6);
    Due.due("36: all", x.judge(0), -1);
    x.shift(3, 1, 5);
    Due.due("36: GONE", x.judge(0), 3);
    x.put(0, 3, -1);
    Due.due("36: nobody", x.judge(0), -1);
    fill(x, 0, 8, 1, 2, 3, -1, 5);
    Due.due("36: one lacks", x.judge(0), 5);
    fill(x, 0, 8, 1, 2, 3, -1, 5, 6, -1);
    Due.due("36: too many", x.judge(0), 6);
    fill(x, 0, 8, 1, 9, 3, -1, 5, 6, -1);
    Due.due("36: the first", x.judge(0), 1);
    x.sheet(0, 8, 0);
    Due.due("36: all lack", x.judge(0), 0);
    SoapNames y = new SoapNames();
    y.sheet(0, 8, 0);
    Due.due("36: no cakes, no numbers", y.judge(0), -1);
    y.sheet(0, 8, 2);
    Due.due("36: no cakes", y.judge(0), 0);
  }
}
