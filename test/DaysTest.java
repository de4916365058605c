/** Promises 16 to 19. */
public final class DaysTest {
  public static void main(String[] args) {
    days();
    daysByTheWater();
    loose();
    where();
    twice();
    Due.end();
  }

  private static void days() {
    SoapNames x = new SoapNames();
    Due.due("16: n 0", x.days(0), Due.BEYOND);
    Due.due("16: n 100", x.days(100), Due.BEYOND);
    Due.due("16: n -1", x.days(-1), Due.BEYOND);
    Due.due("16: without HOUSES", x.days(99), 0);
    Due.due("16: DAY", x.count(2), 99);
    x.house(0);
    Due.cake(x, 0, 0, 1, 2);
    Due.cake(x, 0, 0);
    Due.due("16: one GONE", x.days(4), 1);
    Due.due("16: WORN", x.ofCake(0, 4), 4);
    Due.due("16: the next LAYER", x.days(1) * 10 + x.ofCake(0, 6), 12);
    Due.due("16: two GONE", x.days(5), 2);
    Due.due("16: WORN no more", x.days(90) * 100 + x.ofCake(0, 4), 210);
    Due.due("16: without LAYERS not WORN", x.ofCake(1, 4), 0);
    for (int i = 0; i < 98; i++) {
      x.days(99);
    }
    Due.due("16: DAY is near its end", x.count(2), 9901);
    Due.due("16: STATE", x.days(99), Due.STATE);
    Due.due("16: BEYOND ahead of STATE", x.days(100), Due.BEYOND);
    Due.due("16: DAY stays", x.count(2), 9901);
    Due.due("16: to the end", x.days(98), 2);
    Due.due("16: DAY at its end", x.count(2), 9999);
    Due.due("16: STATE by one", x.days(1), Due.STATE);
    Due.due("17: STATE by one", x.loose(1), Due.STATE);
    Due.due("17: BEYOND ahead of STATE", x.loose(41), Due.BEYOND);
    Due.due("17: no draws then", x.count(9), 1);
  }

  private static void daysByTheWater() {
    SoapNames x = new SoapNames();
    x.house(9);
    x.house(0);
    Due.text(x, 1, "w+d");
    Due.text(x, 0, "99");
    Due.cake(x, 0, 0, 1);
    Due.cake(x, 10, 1, 1);
    Due.cake(x, 50, 1, 1, 2);
    x.change(1, 0, 2);
    x.days(3);
    Due.due("16: by WATER and DAY", x.ofCake(0, 4), 9 + 10 + 11);
    Due.due("16: HARD", x.ofCake(1, 4), 0 + 1 + 3);
    Due.due("16: PRESSED", x.ofCake(2, 4), 1 + 3 + 5);
  }

  private static void loose() {
    SoapNames x = new SoapNames();
    Due.due("17: n 0", x.loose(0), Due.BEYOND);
    Due.due("17: n 41", x.loose(41), Due.BEYOND);
    Due.due("17: without HOUSES", x.loose(40), 0);
    Due.due("17: no draws without HOUSES", x.count(9), 1);
    Due.due("17: DAY", x.count(2), 40);
    for (int i = 0; i < 3; i++) {
      x.house(0);
      Due.cake(x, 0, i, 1, 2, 3, 4, 5, 6, 7, 8);
    }
    int z = 1;
    int[] hands = {1, 1, 1};
    int[] worn = {0, 0, 0};
    for (int day = 0; day < 12; day++) {
      z = z * 1103515245 + 12345;
      int house = (z >>> 8) % 3;
      z = z * 1103515245 + 12345;
      hands[house] = (z >>> 8) % 10;
      int gone = 0;
      for (int i = 0; i < 3; i++) {
        worn[i] += worn[i] < 40 ? hands[i] : 0;
        gone += worn[i] < 40 ? 0 : 1;
      }
      Due.due("17: GONE", x.loose(1), gone);
      Due.due("17: z", x.count(9), z);
      for (int i = 0; i < 3; i++) {
        Due.due("17: HANDS", x.ofHouse(i, 0), hands[i]);
        Due.due("17: WORN", x.ofCake(i, 4), worn[i]);
      }
    }
    Due.due("17: DAY by DAY", x.count(2), 52);
    for (int i = 0; i < 100; i++) {
      x.days(99);
    }
    Due.due("17: DAY is near its end", x.count(2), 9952);
    x.days(8);
    Due.due("17: STATE", x.loose(40), Due.STATE);
    Due.due("17: to the end", x.loose(39) * 10000 + x.count(2), 39999);
  }

  private static void where() {
    SoapNames x = new SoapNames();
    Due.due("18: no HOUSES", x.where(0), 0);
    for (int i = 0; i < 4; i++) {
      x.house(0);
    }
    Due.cake(x, 0, 0, 1, 2);
    Due.cake(x, 0, 0, 2);
    Due.cake(x, 0, 3, 1);
    Due.cake(x, 31, 2, 1);
    Due.cake(x, 50, 1, 2, 1);
    Due.cake(x, 0, 2, -1);
    Due.due("18: GUEST 1", x.where(1), 1 + 2 + 8);
    Due.due("18: GUEST 2", x.where(2), 1);
    Due.due("18: GUEST 3", x.where(3), 0);
    Due.due("18: guest 10", x.where(10), Due.BEYOND);
    Due.due("18: guest -1", x.where(-1), Due.BEYOND);
  }

  private static void twice() {
    SoapNames x = new SoapNames();
    Due.due("19: no HOUSES", x.twice(), 0);
    for (int i = 0; i < 4; i++) {
      x.house(0);
    }
    Due.cake(x, 0, 0, 1);
    Due.cake(x, 0, 0, 1);
    Due.due("19: twice in one HOUSE", x.twice(), 0);
    Due.cake(x, 0, 1, 9);
    Due.cake(x, 0, 2, 9);
    Due.due("19: in two", x.twice(), 512);
    Due.cake(x, 0, 3, 9);
    Due.due("19: in three", x.twice(), 512);
    Due.cake(x, 0, 3, 1);
    Due.due("19: two GUESTS", x.twice(), 512 + 2);
    x.shift(0, 1, 5);
    Due.due("19: by the other cake", x.twice(), 512 + 2);
    x.shift(1, 1, 5);
    Due.due("19: no more", x.twice(), 512);
  }
}
