import java.lang.reflect.InvocationTargetException;
import java.lang.reflect.Method;
import java.util.ArrayList;
import java.util.HashMap;
import java.util.List;
import java.util.Map;
import java.util.Random;

/** Promises 1 to 42: runs of 512 calls, always the same ones, held against PlainModel. */
public final class RandomRunsTest {
  private static final int RUNS = 700;
  private static final int CALLS = 512;
  private static final int[] WILD = {
    Due.MIN, Due.MAX, Due.MIN + 1, Due.MAX - 1, -1, -2, 10, 11, 99, 100, 9999, 10000, 255, 256
  };
  // How often a call comes, beside once.
  private static final Map<String, Integer> OFTEN = Map.of(
      "house", 3, "cake", 5, "layer", 20, "days", 5, "feed", 6, "text", 3, "shift", 8,
      "change", 6, "put", 12);

  private final Random random;
  private final List<String> run = new ArrayList<>();
  private final Map<String, Method> plain = new HashMap<>();
  private final List<Method> calls = new ArrayList<>();
  private final SoapNames soap = new SoapNames();
  private final PlainModel model = new PlainModel();

  private RandomRunsTest(long seed) {
    random = new Random(seed);
    for (Method m : PlainModel.class.getDeclaredMethods()) {
      plain.put(m.getName() + m.getParameterCount(), m);
    }
    Method[] all = SoapNames.class.getDeclaredMethods();
    java.util.Arrays.sort(all, (a, b) -> a.getName().compareTo(b.getName()));
    for (Method m : all) {
      if (java.lang.reflect.Modifier.isPublic(m.getModifiers())) {
        for (int i = 0; i < OFTEN.getOrDefault(m.getName(), 1); i++) {
          calls.add(m);
        }
      }
    }
  }

  public static void main(String[] args) throws Exception {
    int runs = args.length > 0 ? Integer.parseInt(args[0]) : RUNS;
    for (int i = 0; i < runs; i++) {
      new RandomRunsTest(1000 + i).go(i);
    }
    Due.end();
  }

  private void go(int number) throws Exception {
    // Wild arguments come in some runs often, in others never.
    int wild = number % 4 == 0 ? 3 : number % 4 == 1 ? 12 : 60;
    while (run.size() < CALLS) {
      Method m = calls.get(random.nextInt(calls.size()));
      boolean isText = m.getName().equals("feed") && run.size() < CALLS - 9;
      if (isText && random.nextInt(3) > 0) {
        if (!feedText(number)) {
          return;
        }
        continue;
      }
      if (!same(number, m, arguments(m, wild))) {
        return;
      }
    }
  }

  private boolean same(int number, Method m, Object[] args) throws Exception {
    String call = m.getName() + java.util.Arrays.toString(args);
    run.add(call);
    Object got;
    try {
      got = m.invoke(soap, args);
    } catch (InvocationTargetException e) {
      got = e.getCause().toString();
    }
    Object want = due(m, args);
    Due.so("run " + number + ", call " + run.size() + ": " + call + " answered " + got
        + ", due is " + want, want.equals(got));
    if (!want.equals(got)) {
      System.out.println(run.subList(Math.max(0, run.size() - 40), run.size()));
    }
    return want.equals(got);
  }

  private Object due(Method m, Object[] args) throws Exception {
    try {
      return plain.get(m.getName() + m.getParameterCount()).invoke(model, args);
    } catch (InvocationTargetException e) {
      if (!(e.getCause() instanceof PlainModel.Wrong)) {
        throw e;
      }
      int k = ((PlainModel.Wrong) e.getCause()).k;
      model.told[k]++;
      return -1000000000 - k;
    }
  }

  private Object[] arguments(Method m, int wild) {
    Object[] args = new Object[m.getParameterCount()];
    int[] top = tops(m.getName());
    for (int i = 0; i < args.length; i++) {
      boolean isWild = random.nextInt(wild) == 0;
      int v = isWild ? WILD[random.nextInt(WILD.length)] : random.nextInt(top[i] + 2) - low(m, i);
      if (m.getParameterTypes()[i] == long.class) {
        args[i] = random.nextLong();
      } else {
        args[i] = v;
      }
    }
    if (m.getName().equals("sheet") && random.nextInt(8) > 0) {
      args[1] = new int[] {8, 16, 32}[random.nextInt(3)];
    }
    return args;
  }

  private int low(Method m, int i) {
    boolean nobody = m.getName().equals("howFar") && (i == 1 || i == 2)
        || m.getName().equals("layer") && i == 1 || m.getName().equals("put") && i == 2;
    return nobody || random.nextInt(20) == 0 ? 1 : 0;
  }

  /** The greatest of what each argument means, or about so. */
  private int[] tops(String name) {
    int houses = Math.max(0, model.now.houses.size() - 1);
    int cakes = Math.max(0, model.now.cakes.size() - 1);
    switch (name) {
      case "house":
        return new int[] {9};
      case "ofHouse":
        return new int[] {houses, 3};
      case "change":
        return new int[] {houses, 1, 9};
      case "cake":
        return new int[] {69, houses};
      case "ofCake":
        return new int[] {cakes, 8};
      case "layer":
        return new int[] {cakes, 9};
      case "named":
        return new int[] {cakes, 7};
      case "shift":
        return random.nextBoolean() ? new int[] {cakes, 0, houses} : new int[] {cakes, 1, 60};
      case "press":
        return new int[] {cakes, cakes};
      case "become":
        return new int[] {cakes, 69};
      case "as":
        return new int[] {cakes, 6};
      case "feed":
        return new int[] {0, 8};
      case "law":
        return new int[] {1, 20, 20, 20};
      case "days":
        return new int[] {random.nextInt(6) == 0 ? 99 : 4};
      case "loose":
        return new int[] {random.nextInt(6) == 0 ? 40 : 4};
      case "where":
        return new int[] {9};
      case "then":
        return new int[] {random.nextBoolean() ? 99 : 12, cakes, 1};
      case "comes":
        return new int[] {9, houses};
      case "spares":
        return new int[] {9, 30};
      case "hurry":
        return new int[] {9, houses, 30};
      case "howFar":
        return new int[] {cakes, 10, 10, 20, 1};
      case "odds":
        return new int[] {9, houses, random.nextBoolean() ? 99 : 12, 1};
      case "voice":
        return new int[] {cakes, 3, 100};
      case "sheet":
        return new int[] {3, 32, random.nextInt(4) == 0 ? 40 : 7};
      case "put":
        return new int[] {3, 8, random.nextBoolean() ? 10 : 60};
      case "move":
        return new int[] {3, 5, 3, 5, 4};
      case "tell":
        return new int[] {Math.max(1, model.now.cakes.size() - 1)};
      default:
        return new int[] {10};
    }
  }

  /** A TEXT comes to an empty TAPE, mostly a good one. */
  private boolean feedText(int number) throws Exception {
    int use = random.nextInt(2);
    StringBuilder s = new StringBuilder();
    write(s, use == 0 ? "mkn" : "wmd", 0);
    if (random.nextInt(3) == 0 && s.length() > 0) {
      String any = "mknwd0123456789+-*/%<=>|&!() x";
      int at = random.nextInt(s.length());
      char sign = any.charAt(random.nextInt(any.length()));
      switch (random.nextInt(3)) {
        case 0:
          s.insert(at, sign);
          break;
        case 1:
          s.setCharAt(at, sign);
          break;
        default:
          s.deleteCharAt(at);
      }
    }
    s.setLength(Math.min(50, s.length()));
    Method feed = SoapNames.class.getMethod("feed", long.class, int.class);
    Method text = SoapNames.class.getMethod("text", int.class);
    if (model.now.tape.length() > 0 && !same(number, text, new Object[] {use})) {
      return false;
    }
    for (int i = 0; i < s.length(); i += 8) {
      int n = Math.min(8, s.length() - i);
      long word = random.nextLong();
      for (int j = n - 1; j >= 0; j--) {
        word = word << 8 | s.charAt(i + j);
      }
      if (!same(number, feed, new Object[] {word, n})) {
        return false;
      }
    }
    return same(number, text, new Object[] {use});
  }

  private void write(StringBuilder s, String names, int deep) {
    int many = random.nextInt(4) == 0 ? 3 : 1 + random.nextInt(2);
    boolean compared = false;
    for (int i = 0; i < many; i++) {
      int which = random.nextInt(12);
      if (which < 6) {
        s.append(names.charAt(random.nextInt(3)));
      } else if (which < 9 || deep > 3) {
        s.append(random.nextInt(random.nextInt(4) == 0 ? 10000 : 12));
      } else if (which == 9) {
        s.append('!').append(names.charAt(random.nextInt(3)));
      } else {
        s.append('(');
        write(s, names, deep + 1);
        s.append(')');
      }
      if (i < many - 1) {
        char sign = "+-*/%+-*/%<=>|&".charAt(random.nextInt(15));
        boolean compares = "<=>".indexOf(sign) >= 0;
        sign = compares && compared ? '|' : sign;
        compared = "|&".indexOf(sign) < 0 && (compared || compares);
        s.append(sign);
      }
    }
  }
}
