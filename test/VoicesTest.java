/** Promises 29 to 31. */
public final class VoicesTest {
  public static void main(String[] args) {
    seed();
    voices();
    roundInts();
    wrong();
    Due.end();
  }

  private static void seed() {
    SoapNames x = new SoapNames();
    Due.due("29: 1 at first", x.seed(Due.MIN), 1);
    Due.due("29: MIN", x.seed(Due.BEYOND), Due.MIN);
    Due.due("29: no ERROR", x.seed(7), Due.BEYOND);
    Due.due("29: not told", x.told(1), 0);
    Due.due("29: z", x.count(9), 7);
    x.house(0);
    x.loose(1);
    int z = 7 * 1103515245 + 12345;
    Due.due("29: draws from it", x.count(9), z * 1103515245 + 12345);
  }

  private static void voice(int km, int act, int x, int want, int... bodies) {
    // As cake 5: n is 5.
    SoapNames soap = new SoapNames();
    soap.house(0);
    for (int i = 0; i < 6; i++) {
      soap.cake(0, 0);
    }
    soap.become(5, km);
    Due.due("30: voice of " + km + ", act " + act, soap.voice(5, act, x), want);
    Due.due("31: how many, " + km + ", act " + act, soap.count(8), bodies.length);
    for (int i = 0; i < bodies.length; i++) {
      Due.due("31: trace " + i + " of " + km + ", act " + act, soap.trace(i), bodies[i]);
    }
    Due.due("31: behind the last", soap.trace(bodies.length), Due.NONE);
    Due.due("31: ahead of the first", soap.trace(-1), Due.NONE);
  }

  private static void voices() {
    voice(2, 0, 10, 15, 10);
    voice(2, 1, 10, 30, 11, 10);
    voice(2, 2, 10, 8, 12);
    voice(2, 3, 10, 30 ^ 8, 13, 11, 10, 12);
    voice(12, 0, 10, 45, 20, 10);
    voice(12, 1, 10, 90, 11, 20, 10);
    voice(12, 2, 10, 8, 12);
    voice(12, 3, 10, 90 ^ 8, 13, 11, 20, 10, 12);
    voice(22, 0, 10, 15, 10);
    voice(22, 1, 10, 31, 30, 11, 10, 12);
    voice(22, 2, 10, 8, 12);
    voice(22, 3, 10, 31 ^ 8, 13, 30, 11, 10, 12, 12);
    voice(32, 0, 10, 15, 10);
    voice(32, 1, 10, 30, 11, 10);
    voice(32, 2, 10, -8, 40, 12);
    voice(32, 3, 10, 30 ^ -8, 13, 11, 10, 40, 12);
    voice(42, 0, 10, 45, 20, 10);
    voice(42, 1, 10, 90, 11, 20, 10);
    voice(42, 2, 10, 8, 12);
    voice(42, 3, 10, (90 ^ 8) - 21, 50, 13, 11, 20, 10, 12, 20, 10);
    voice(52, 0, 10, 15, 10);
    voice(52, 1, 10, 33, 60, 30, 11, 10, 12);
    voice(52, 2, 10, 8, 12);
    voice(52, 3, 10, 33 ^ 8, 13, 60, 30, 11, 10, 12, 12);
    voice(62, 0, 10, 15, 10);
    voice(62, 1, 10, 30, 11, 10);
    voice(62, 2, 10, -8 ^ 5, 70, 40, 12);
    voice(62, 3, 10, 30 - (30 ^ -8 ^ 5), 71, 11, 10, 13, 11, 10, 70, 40, 12);
  }

  private static void roundInts() {
    voice(9, 0, Due.MAX, Due.MIN + 4, 10);
    voice(9, 1, Due.MAX, 2 * (Due.MIN + 4), 11, 10);
    voice(9, 2, Due.MIN, Due.MAX - 8, 12);
    voice(30, 2, Due.MIN, Due.MIN, 40, 12);
    voice(50, 1, Due.MAX, 2 * (Due.MIN + 5) - 1, 60, 30, 11, 10, 12);
    voice(0, 0, Due.BEYOND - 5, Due.BEYOND, 10);
  }

  private static void wrong() {
    SoapNames x = new SoapNames();
    Due.due("30: no cake", x.voice(0, 0, 0), Due.BEYOND);
    x.house(0);
    x.cake(0, 0);
    x.voice(0, 3, 1);
    Due.due("30: act 4", x.voice(0, 4, 0), Due.BEYOND);
    Due.due("30: act -1", x.voice(0, -1, 0), Due.BEYOND);
    Due.due("30: cake 1", x.voice(1, 0, 0), Due.BEYOND);
    Due.due("30: cake -1", x.voice(-1, 0, 0), Due.BEYOND);
    Due.due("31: THE TRACE stays", x.count(8), 4);
    Due.due("31: i MAX", x.trace(Due.MAX), Due.NONE);
    Due.due("31: i MIN", x.trace(Due.MIN), Due.NONE);
    x.voice(0, 0, Due.BEYOND);
    Due.due("31: of the latest alone", x.count(8), 1);
    Due.due("30: an answer that is no ERROR", x.told(1), 5);
  }
}
