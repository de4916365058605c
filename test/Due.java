/** What the tests share: an answer against the one that is due, and the end of a test. */
final class Due {
  static final int BEYOND = -1000000001;
  static final int NONE = -1000000002;
  static final int STATE = -1000000003;
  static final int FULL = -1000000004;
  static final int KIND = -1000000005;
  static final int MIN = Integer.MIN_VALUE;
  static final int MAX = Integer.MAX_VALUE;

  private static int asked = 0;
  private static int wrong = 0;

  private Due() {}

  static void due(String call, long got, long want) {
    asked++;
    if (got != want) {
      wrong++;
      System.out.println(call + " answered " + got + ", due is " + want);
    }
  }

  static void so(String what, boolean is) {
    asked++;
    if (!is) {
      wrong++;
      System.out.println("not so: " + what);
    }
  }

  static void end() {
    System.out.println(asked + " asked, " + wrong + " wrong");
    if (wrong != 0 || asked == 0) {
      System.exit(1);
    }
  }

  /** Brings signs to THE TAPE; answers what the last feed() did. */
  static int feed(SoapNames x, String signs) {
    int answer = 0;
    for (int i = 0; i < signs.length(); i += 8) {
      int n = Math.min(8, signs.length() - i);
      long word = 0;
      for (int j = 0; j < n; j++) {
        word |= (signs.charAt(i + j) & 255L) << (8 * j);
      }
      answer = x.feed(word, n);
    }
    return answer;
  }

  static int text(SoapNames x, int use, String signs) {
    feed(x, signs);
    return x.text(use);
  }

  /** A cake with LAYERS of these NAMES. */
  static int cake(SoapNames x, int km, int house, int... names) {
    int c = x.cake(km, house);
    for (int name : names) {
      x.layer(c, name);
    }
    return c;
  }
}
