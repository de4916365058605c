import com.sun.management.ThreadMXBean;
import java.lang.management.ManagementFactory;

/** LANGUAGE.md, rule 12: rows are made with the object; its calls make nothing more. */
public final class RoomTest {
  private static final ThreadMXBean BEAN = (ThreadMXBean) ManagementFactory.getThreadMXBean();

  public static void main(String[] args) {
    SoapNames warm = filled();
    for (int i = 0; i < 3; i++) {
      dear(warm);
    }
    long before = made();
    SoapNames x = filled();
    long atFirst = made() - before;
    Due.so("a new object, filled: " + atFirst + " bytes", atFirst < 40000);
    before = made();
    for (int i = 0; i < 25; i++) {
      dear(x);
    }
    long more = made() - before;
    Due.so("500 calls: " + more + " bytes", more < 4000);
    Due.end();
  }

  private static long made() {
    return BEAN.getThreadAllocatedBytes(Thread.currentThread().getId());
  }

  private static SoapNames filled() {
    SoapNames x = new SoapNames();
    for (int i = 0; i < 4; i++) {
      x.house(i);
    }
    for (int i = 0; i < 6; i++) {
      int c = x.cake(10 * i + i, i % 4);
      for (int j = 0; j < 8; j++) {
        x.layer(c, (i + j) % 10);
      }
    }
    for (int i = 0; i < 4; i++) {
      x.sheet(i, 32, 40);
    }
    return x;
  }

  private static void dear(SoapNames x) {
    x.feed(0x292b6d282b6d2b6dL, 3);
    x.text(0);
    x.feed(0x6d2b77L, 3);
    x.text(1);
    x.days(1);
    x.loose(1);
    x.then(99, 0, 0);
    x.comes(9, 3);
    x.clash(1);
    x.spares(9, 30);
    x.hurry(9, 3, 30);
    x.fits(0);
    x.howFar(0, 1, 2, 20, 1);
    x.lends(0);
    x.odds(9, 0, 99, 1);
    x.voice(5, 3, 1);
    x.sheet(3, 32, 40);
    x.move(0, 0, 1, 0, 40);
    x.image();
    x.restore();
  }
}
