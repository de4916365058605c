/** Promises 13 to 15, and what TEXTS mean. */
public final class TextsTest {
  public static void main(String[] args) {
    feed();
    text();
    faults();
    opened();
    values();
    law();
    Due.end();
  }

  private static void feed() {
    SoapNames x = new SoapNames();
    Due.due("13: n 0", x.feed(1, 0), Due.BEYOND);
    Due.due("13: n 9", x.feed(1, 9), Due.BEYOND);
    Due.due("13: n MIN", x.feed(1, Due.MIN), Due.BEYOND);
    Due.due("13: n MAX", x.feed(1, Due.MAX), Due.BEYOND);
    for (int i = 1; i <= 6; i++) {
      Due.due("13: n 8", x.feed(0x3131313131313131L, 8), 8 * i);
    }
    Due.due("13: 51 bytes", x.feed(0, 3), Due.FULL);
    Due.due("13: BEYOND ahead of FULL", x.feed(0, 9), Due.BEYOND);
    Due.due("13: FULL changes nothing", x.count(6), 48);
    Due.due("13: 50 bytes", x.feed(0, 2), 50);
    Due.due("13: no more", x.feed(0, 1), Due.FULL);
    Due.due("13: the 5th digit", x.text(0), -14);
    x.feed(0x3231, 1);
    x.feed(0xffffffffffffff33L, 1);
    x.text(0);
    Due.due("13: the lowest bytes alone", x.law(0, 0, 0, 0), 13);
    x.feed(0x37, 2);
    Due.due("13: the lowest first", x.text(0), -11);
    x.feed(0x3938, 2);
    x.text(0);
    Due.due("13: the lowest first, as value", x.law(0, 0, 0, 0), 89);
    x.feed(0x31312b31312b3131L, 8);
    x.text(0);
    Due.due("13: eight bytes", x.law(0, 0, 0, 0), 33);
    x.feed(0x8031312b3131312bL >>> 8, 7);
    Due.due("13: a byte above 127", x.text(0), -16);
  }

  private static void text() {
    SoapNames x = new SoapNames();
    x.house(0);
    Due.cake(x, 0, 0, 1, 2);
    Due.feed(x, "9");
    Due.due("14: use 2", x.text(2), Due.BEYOND);
    Due.due("14: use -1", x.text(-1), Due.BEYOND);
    Due.due("14: THE TAPE stays", x.count(6), 1);
    Due.due("14: a TEXT", x.text(0), 1);
    Due.due("14: THE TAPE is empty", x.count(6), 0);
    Due.due("14: THICK at once", x.ofCake(0, 5), 9);
    Due.due("14: a FAULT", Due.text(x, 0, "8+"), -12);
    Due.due("14: THE TAPE is empty, too", x.count(6), 0);
    Due.due("14: the one ahead stays", x.ofCake(0, 5), 9);
    Due.due("14: empty", x.text(0), -10);
    Due.due("14: the one ahead stays still", x.law(0, 0, 0, 0), 9);
    Due.due("14: no ERROR", x.told(1) + x.told(2) + x.told(3) + x.told(4) + x.told(5), 2);
    Due.due("14: in its place", Due.text(x, 0, "7"), 1);
    Due.due("14: the new one", x.law(0, 0, 0, 0), 7);
    Due.due("14: the other USE is as it was", x.law(1, 3, 0, 0), 2);
    Due.due("14: the other USE", Due.text(x, 1, "8"), 1);
    Due.due("14: the other USE's", x.law(1, 0, 0, 0), 8);
    Due.due("14: this one's stays", x.law(0, 0, 0, 0), 7);
    for (int i = 1; i <= 30; i++) {
      Due.due("14: again", Due.text(x, 0, "m*1*1*1*1*1+" + i), 1);
      Due.due("14: again, as value", x.law(0, 2, 0, 0), i + 2);
      Due.due("14: between them", Due.text(x, 0, "m+m+m+m+m+"), -20);
    }
  }

  private static void fault(String signs, int place) {
    SoapNames x = new SoapNames();
    Due.due("14: FAULT of " + signs, Due.text(x, 0, signs), -10 - place);
  }

  private static void good(String signs) {
    SoapNames x = new SoapNames();
    Due.due("14: " + signs, Due.text(x, 0, signs), 1);
  }

  private static void faults() {
    fault("", 0);
    fault(" ", 0);
    fault("m ", 1);
    fault("x", 0);
    fault("w", 0);
    fault("d", 0);
    fault("M", 0);
    good("m");
    good("k");
    good("n");
    good("9999");
    good("0000");
    fault("00000", 4);
    fault("m+12345", 6);
    fault("m5", 1);
    fault("5m", 1);
    fault("mm", 1);
    fault("-5", 0);
    fault("+m", 0);
    fault("m+", 2);
    fault("m+*m", 2);
    fault("m++m", 2);
    fault("m|", 2);
    fault("m||m", 2);
    fault("m&&m", 2);
    fault("m<=n", 2);
    fault("m<n<k", 3);
    fault("m=n>k", 3);
    fault("m=n+1=k", 5);
    good("m<n&m<k|n=k&k>m");
    good("(m<n)<k");
    good("m<(n<k)");
    good("!m<!n");
    fault("(m", 2);
    fault("(m+", 3);
    fault("m)", 1);
    fault("(m))", 3);
    fault("()", 1);
    fault("(m<n<k)", 4);
    fault("(", 1);
    fault("!", 1);
    fault("m!", 1);
    fault("m(", 1);
    fault("(m)(", 3);
    fault("(m)!", 3);
    fault("!)", 1);
    fault("m%", 2);
    fault("m%%", 2);
    fault("m^n", 1);
    fault("m~", 1);
    SoapNames x = new SoapNames();
    Due.due("14: NAMES of WEAR", Due.text(x, 1, "w+m+d"), 1);
    Due.due("14: k is none", Due.text(x, 1, "w+k"), -12);
    Due.due("14: n is none", Due.text(x, 1, "n"), -10);
    StringBuilder longest = new StringBuilder("m");
    for (int i = 0; i < 24; i++) {
      longest.append("+m");
    }
    good(longest + "");
    good(longest.substring(0, 47) + "+10");
    longest.append(')');
    fault(longest + "", 49);
    fault(longest.substring(0, 47) + "*((", 50);
  }

  private static void opened() {
    good("(((((m)))))");
    fault("((((((m))))))", 5);
    good("!!!!!m");
    fault("!!!!!!m", 5);
    good("!(!(!m))");
    good("!(!(!m)+!m)");
    fault("!(!(!(m)))", 5);
    fault("!(!(!!m))", 5);
    good("!!!!!m+!!!!!m");
    good("(m)+(m)+(m)+(m)+(m)+(m)+((((m))))");
    good("((((m)+!!m)))");
    fault("((((m)+!!!m)))", 9);
    good("((((m)+!m)))");
    fault("(((((m+1", 8);
    fault("(((((m+(1", 7);
  }

  private static void value(String signs, int want) {
    SoapNames x = new SoapNames();
    Due.due("15: " + signs, Due.text(x, 0, signs), 1);
    Due.due("15: value of " + signs, x.law(0, 7, 3, 0), want);
  }

  private static void values() {
    value("42", 42);
    value("0042", 42);
    value("m", 7);
    value("k", 3);
    value("n+9", 9);
    value("m+k*2", 13);
    value("(m+k)*2", 20);
    value("m-k-1", 3);
    value("m-k+1", 5);
    value("90/4/3", 7);
    value("90/(4*3)", 7);
    value("90%40*2", 20);
    value("2*90%40", 20);
    value("m/n+50", 50);
    value("m%n+50", 50);
    value("(n-m)/2+50", 47);
    value("(n-m)%4+50", 47);
    value("m%(n-4)+50", 53);
    value("(m<8)+50", 51);
    value("(m<7)+50", 50);
    value("(m>6)+50", 51);
    value("(m>7)+50", 50);
    value("(m=7)+50", 51);
    value("(m=k)+50", 50);
    value("m+1<k*3", 1);
    value("(m&k)+50", 51);
    value("(m&n)+50", 50);
    value("(n|k)+50", 51);
    value("(n|n)+50", 50);
    value("(n-1&n-2)+50", 51);
    value("(n&k|m)+50", 51);
    value("(m|k&n)+50", 51);
    value("(m=7&k=3)+50", 51);
    value("!n+50", 51);
    value("!m+50", 50);
    value("!(n-1)+50", 50);
    value("!!m+50", 51);
    value("!n*9+50", 59);
    value("9999*9999*9999/9999/9999+50", 9999 * 9999 * 9999 / 9999 / 9999 + 50);
    value("(9999*9999*22<0)+50", 51);
    value("(n-9999*9999*22>0)+50", 51);
  }

  private static void law() {
    SoapNames x = new SoapNames();
    Due.due("15: use 2", x.law(2, 0, 0, 0), Due.BEYOND);
    Due.due("15: use -1", x.law(-1, 0, 0, 0), Due.BEYOND);
    Due.due("15: THICK without", x.law(0, 99, 99, 99), 5);
    Due.due("15: WEAR without", x.law(1, 8, 99, 99), 3);
    Due.due("15: WEAR without, held above", x.law(1, 600, 0, 0), 99);
    Due.due("15: WEAR without, held below", x.law(1, -600, 0, 0), 0);
    Due.due("15: WEAR without, cut", x.law(1, -2, 0, 0), 1);
    Due.text(x, 0, "m*100+k*10+n");
    Due.text(x, 1, "w*100+m*10+d");
    Due.due("15: m", x.law(0, 0, 4, 2), 42);
    Due.due("15: THICK at most", x.law(0, 1, 0, 0), 99);
    Due.due("15: THICK at least", x.law(0, 0, 0, 0), 1);
    Due.due("15: THICK far below", x.law(0, -1, 0, 0), 1);
    Due.due("15: w, m, d", x.law(1, 0, 4, 2), 42);
    Due.due("15: WEAR at most", x.law(1, 1, 0, 0), 99);
    Due.due("15: WEAR at least", x.law(1, 0, 0, -1), 0);
    Due.due("15: WEAR 0", x.law(1, 0, 0, 0), 0);
    Due.due("15: wraps", x.law(1, 42949673, 0, -4), 0);
    Due.due("15: wraps, as value", x.law(1, 42949673, 0, 0), 4);
    Due.text(x, 1, "w/m");
    Due.due("15: MIN by -1", x.law(1, Due.MIN, -1, 0), 0);
    Due.due("15: by 0", x.law(1, 50, 0, 0), 0);
    Due.text(x, 1, "w%m+60");
    Due.due("15: the rest of MIN by -1", x.law(1, Due.MIN, -1, 0), 60);
    Due.due("15: the rest by 0", x.law(1, 50, 0, 0), 60);
    Due.due("15: the rest is as what is divided", x.law(1, -50, 7, 0), 59);
  }
}
